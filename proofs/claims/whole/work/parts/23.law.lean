/-! The law's loop as a function of ints and longs, with its certificate (wip/whole/gen_law.py writes this) -/
theorem C_11_13 : mm_call 11 13 = some (0, 91) := by decide +kernel
theorem C_11_17 : mm_call 11 17 = some (0, 186) := by decide +kernel
theorem C_11_18 : mm_call 11 18 = some (0, 92) := by decide +kernel
theorem C_11_22 : mm_call 11 22 = some (0, 187) := by decide +kernel
theorem C_11_23 : mm_call 11 23 = some (0, 93) := by decide +kernel
theorem C_11_27 : mm_call 11 27 = some (0, 189) := by decide +kernel
theorem C_11_28 : mm_call 11 28 = some (0, 95) := by decide +kernel
theorem C_11_31 : mm_call 11 31 = some (0, 188) := by decide +kernel
theorem C_11_32 : mm_call 11 32 = some (0, 96) := by decide +kernel
theorem C_11_36 : mm_call 11 36 = some (0, 203) := by decide +kernel
theorem C_11_37 : mm_call 11 37 = some (0, 98) := by decide +kernel
theorem C_11_40 : mm_call 11 40 = some (0, 205) := by decide +kernel
theorem C_11_41 : mm_call 11 41 = some (0, 99) := by decide +kernel
theorem C_11_44 : mm_call 11 44 = some (0, 208) := by decide +kernel
theorem C_11_45 : mm_call 11 45 = some (0, 100) := by decide +kernel
theorem C_11_48 : mm_call 11 48 = some (0, 209) := by decide +kernel
theorem C_11_49 : mm_call 11 49 = some (0, 101) := by decide +kernel
theorem C_11_52 : mm_call 11 52 = some (0, 223) := by decide +kernel
theorem C_11_53 : mm_call 11 53 = some (0, 102) := by decide +kernel
theorem C_11_56 : mm_call 11 56 = some (0, 224) := by decide +kernel
theorem C_11_57 : mm_call 11 57 = some (0, 103) := by decide +kernel
theorem C_11_60 : mm_call 11 60 = some (0, 227) := by decide +kernel
theorem C_11_61 : mm_call 11 61 = some (0, 104) := by decide +kernel
theorem C_11_64 : mm_call 11 64 = some (0, 228) := by decide +kernel
theorem C_11_65 : mm_call 11 65 = some (0, 105) := by decide +kernel
theorem C_11_68 : mm_call 11 68 = some (0, 230) := by decide +kernel
theorem C_11_69 : mm_call 11 69 = some (0, 106) := by decide +kernel
theorem C_11_72 : mm_call 11 72 = some (0, 232) := by decide +kernel
theorem C_11_73 : mm_call 11 73 = some (0, 107) := by decide +kernel
theorem C_11_76 : mm_call 11 76 = some (0, 233) := by decide +kernel
theorem C_11_77 : mm_call 11 77 = some (0, 108) := by decide +kernel
theorem C_11_80 : mm_call 11 80 = some (0, 235) := by decide +kernel
theorem C_11_81 : mm_call 11 81 = some (0, 109) := by decide +kernel
theorem C_11_84 : mm_call 11 84 = some (0, 236) := by decide +kernel
theorem C_11_85 : mm_call 11 85 = some (0, 110) := by decide +kernel
theorem C_11_88 : mm_call 11 88 = some (0, 238) := by decide +kernel
theorem C_11_89 : mm_call 11 89 = some (0, 111) := by decide +kernel
theorem C_11_92 : mm_call 11 92 = some (0, 239) := by decide +kernel
theorem C_11_93 : mm_call 11 93 = some (0, 112) := by decide +kernel
theorem C_11_96 : mm_call 11 96 = some (0, 241) := by decide +kernel
theorem C_11_97 : mm_call 11 97 = some (0, 113) := by decide +kernel
theorem C_11_101 : mm_call 11 101 = some (0, 243) := by decide +kernel
theorem C_11_102 : mm_call 11 102 = some (0, 114) := by decide +kernel
theorem C_11_105 : mm_call 11 105 = some (0, 244) := by decide +kernel
theorem C_11_106 : mm_call 11 106 = some (0, 115) := by decide +kernel
theorem C_11_109 : mm_call 11 109 = some (0, 245) := by decide +kernel
theorem C_11_110 : mm_call 11 110 = some (0, 116) := by decide +kernel
theorem C_11_113 : mm_call 11 113 = some (0, 247) := by decide +kernel
theorem C_11_114 : mm_call 11 114 = some (0, 117) := by decide +kernel
theorem C_11_117 : mm_call 11 117 = some (0, 248) := by decide +kernel
theorem C_11_118 : mm_call 11 118 = some (0, 118) := by decide +kernel
theorem C_11_121 : mm_call 11 121 = some (0, 249) := by decide +kernel
theorem C_11_122 : mm_call 11 122 = some (0, 119) := by decide +kernel
theorem C_11_125 : mm_call 11 125 = some (0, 250) := by decide +kernel
theorem C_11_126 : mm_call 11 126 = some (0, 120) := by decide +kernel
theorem C_11_129 : mm_call 11 129 = some (0, 251) := by decide +kernel
theorem C_11_130 : mm_call 11 130 = some (0, 121) := by decide +kernel
theorem C_11_133 : mm_call 11 133 = some (0, 252) := by decide +kernel
theorem C_11_134 : mm_call 11 134 = some (0, 122) := by decide +kernel
theorem C_11_137 : mm_call 11 137 = some (0, 253) := by decide +kernel
theorem C_11_138 : mm_call 11 138 = some (0, 123) := by decide +kernel
theorem C_11_141 : mm_call 11 141 = some (0, 254) := by decide +kernel
theorem C_11_142 : mm_call 11 142 = some (0, 124) := by decide +kernel
theorem C_11_145 : mm_call 11 145 = some (0, 257) := by decide +kernel
theorem C_11_146 : mm_call 11 146 = some (0, 125) := by decide +kernel
theorem C_11_149 : mm_call 11 149 = some (0, 258) := by decide +kernel
theorem C_11_150 : mm_call 11 150 = some (0, 126) := by decide +kernel
theorem C_11_153 : mm_call 11 153 = some (0, 259) := by decide +kernel
theorem C_11_154 : mm_call 11 154 = some (0, 127) := by decide +kernel
theorem C_11_157 : mm_call 11 157 = some (0, 260) := by decide +kernel
theorem C_11_158 : mm_call 11 158 = some (0, 128) := by decide +kernel
theorem C_11_161 : mm_call 11 161 = some (0, 261) := by decide +kernel
theorem C_11_162 : mm_call 11 162 = some (0, 129) := by decide +kernel
theorem C_11_165 : mm_call 11 165 = some (0, 263) := by decide +kernel
theorem C_11_166 : mm_call 11 166 = some (0, 130) := by decide +kernel
theorem C_11_169 : mm_call 11 169 = some (0, 264) := by decide +kernel
theorem C_11_170 : mm_call 11 170 = some (0, 131) := by decide +kernel
theorem C_11_173 : mm_call 11 173 = some (0, 265) := by decide +kernel
theorem C_11_174 : mm_call 11 174 = some (0, 132) := by decide +kernel
theorem C_11_177 : mm_call 11 177 = some (0, 266) := by decide +kernel
theorem C_11_178 : mm_call 11 178 = some (0, 133) := by decide +kernel
theorem C_11_181 : mm_call 11 181 = some (0, 267) := by decide +kernel
theorem C_11_182 : mm_call 11 182 = some (0, 134) := by decide +kernel
theorem C_11_185 : mm_call 11 185 = some (0, 270) := by decide +kernel
theorem C_11_186 : mm_call 11 186 = some (0, 135) := by decide +kernel
theorem C_11_189 : mm_call 11 189 = some (0, 277) := by decide +kernel
theorem C_11_190 : mm_call 11 190 = some (0, 136) := by decide +kernel
theorem C_11_193 : mm_call 11 193 = some (0, 278) := by decide +kernel
theorem C_11_194 : mm_call 11 194 = some (0, 137) := by decide +kernel
theorem C_11_197 : mm_call 11 197 = some (0, 280) := by decide +kernel
theorem C_11_198 : mm_call 11 198 = some (0, 138) := by decide +kernel
theorem C_11_201 : mm_call 11 201 = some (0, 281) := by decide +kernel
theorem C_11_202 : mm_call 11 202 = some (0, 139) := by decide +kernel
theorem C_11_205 : mm_call 11 205 = some (0, 282) := by decide +kernel
theorem C_11_206 : mm_call 11 206 = some (0, 140) := by decide +kernel
theorem C_11_209 : mm_call 11 209 = some (0, 283) := by decide +kernel
theorem C_11_210 : mm_call 11 210 = some (0, 142) := by decide +kernel
theorem C_11_213 : mm_call 11 213 = some (0, 285) := by decide +kernel
theorem C_11_214 : mm_call 11 214 = some (0, 143) := by decide +kernel
theorem C_11_217 : mm_call 11 217 = some (0, 286) := by decide +kernel
theorem C_11_218 : mm_call 11 218 = some (0, 146) := by decide +kernel
theorem C_11_221 : mm_call 11 221 = some (0, 288) := by decide +kernel
theorem C_11_222 : mm_call 11 222 = some (0, 147) := by decide +kernel
theorem C_11_225 : mm_call 11 225 = some (0, 289) := by decide +kernel
theorem C_11_226 : mm_call 11 226 = some (0, 150) := by decide +kernel
theorem C_11_229 : mm_call 11 229 = some (0, 295) := by decide +kernel
theorem C_11_230 : mm_call 11 230 = some (0, 151) := by decide +kernel
theorem C_11_233 : mm_call 11 233 = some (0, 296) := by decide +kernel
theorem C_11_234 : mm_call 11 234 = some (0, 152) := by decide +kernel
theorem C_11_237 : mm_call 11 237 = some (0, 298) := by decide +kernel
theorem C_11_238 : mm_call 11 238 = some (0, 153) := by decide +kernel
theorem C_11_241 : mm_call 11 241 = some (0, 299) := by decide +kernel
theorem C_11_242 : mm_call 11 242 = some (0, 154) := by decide +kernel
theorem C_11_245 : mm_call 11 245 = some (0, 300) := by decide +kernel
theorem C_11_246 : mm_call 11 246 = some (0, 157) := by decide +kernel
theorem C_11_249 : mm_call 11 249 = some (0, 304) := by decide +kernel
theorem C_11_250 : mm_call 11 250 = some (0, 159) := by decide +kernel
theorem C_11_253 : mm_call 11 253 = some (0, 307) := by decide +kernel
theorem C_11_254 : mm_call 11 254 = some (0, 160) := by decide +kernel
theorem C_11_258 : mm_call 11 258 = some (0, 308) := by decide +kernel
theorem C_11_259 : mm_call 11 259 = some (0, 164) := by decide +kernel
theorem C_11_262 : mm_call 11 262 = some (0, 311) := by decide +kernel
theorem C_11_263 : mm_call 11 263 = some (0, 165) := by decide +kernel
theorem C_11_266 : mm_call 11 266 = some (0, 312) := by decide +kernel
theorem C_11_267 : mm_call 11 267 = some (0, 166) := by decide +kernel
theorem C_11_270 : mm_call 11 270 = some (0, 314) := by decide +kernel
theorem C_11_271 : mm_call 11 271 = some (0, 167) := by decide +kernel
theorem C_11_274 : mm_call 11 274 = some (0, 315) := by decide +kernel
theorem C_11_275 : mm_call 11 275 = some (0, 168) := by decide +kernel
theorem C_11_278 : mm_call 11 278 = some (0, 316) := by decide +kernel
theorem C_11_279 : mm_call 11 279 = some (0, 169) := by decide +kernel
theorem C_11_282 : mm_call 11 282 = some (0, 317) := by decide +kernel
theorem C_11_283 : mm_call 11 283 = some (0, 173) := by decide +kernel
theorem C_11_286 : mm_call 11 286 = some (0, 320) := by decide +kernel
theorem C_11_287 : mm_call 11 287 = some (0, 174) := by decide +kernel
theorem C_11_290 : mm_call 11 290 = some (0, 321) := by decide +kernel
theorem C_11_291 : mm_call 11 291 = some (0, 175) := by decide +kernel
theorem C_11_294 : mm_call 11 294 = some (0, 322) := by decide +kernel
theorem C_11_295 : mm_call 11 295 = some (0, 177) := by decide +kernel
theorem C_11_298 : mm_call 11 298 = some (0, 183) := by decide +kernel
theorem C_11_299 : mm_call 11 299 = some (0, 178) := by decide +kernel
theorem C_11_302 : mm_call 11 302 = some (0, 185) := by decide +kernel
theorem C_11_303 : mm_call 11 303 = some (0, 179) := by decide +kernel
theorem C_11_306 : mm_call 11 306 = some (0, 323) := by decide +kernel
theorem C_11_309 : mm_call 11 309 = some (0, 180) := by decide +kernel
theorem C_11_313 : mm_call 11 313 = some (0, 324) := by decide +kernel
theorem C_11_314 : mm_call 11 314 = some (0, 181) := by decide +kernel
theorem C_11_317 : mm_call 11 317 = some (0, 326) := by decide +kernel
theorem D_335 : mD 335 11 cL_law 4 (some .boolean) := ⟨rfl, rfl, rfl, rfl⟩
theorem E_91 : mE1 91 9 6 6 := ⟨rfl, rfl, rfl⟩
theorem E_92 : mE1 92 9 2 2 := ⟨rfl, rfl, rfl⟩
theorem E_93 : mE1 93 9 1 2 := ⟨rfl, rfl, rfl⟩
theorem E_95 : mE1 95 9 2 2 := ⟨rfl, rfl, rfl⟩
theorem E_96 : mE1 96 9 3 3 := ⟨rfl, rfl, rfl⟩
theorem E_98 : mE1 98 9 3 3 := ⟨rfl, rfl, rfl⟩
theorem E_99 : mE1 99 9 3 3 := ⟨rfl, rfl, rfl⟩
theorem E_100 : mE1 100 9 3 3 := ⟨rfl, rfl, rfl⟩
theorem E_101 : mE1 101 9 3 3 := ⟨rfl, rfl, rfl⟩
theorem E_102 : mE1 102 9 3 3 := ⟨rfl, rfl, rfl⟩
theorem E_103 : mE1 103 9 2 2 := ⟨rfl, rfl, rfl⟩
theorem E_104 : mE1 104 9 3 3 := ⟨rfl, rfl, rfl⟩
theorem E_105 : mE1 105 9 2 2 := ⟨rfl, rfl, rfl⟩
theorem E_106 : mE1 106 9 2 2 := ⟨rfl, rfl, rfl⟩
theorem E_107 : mE1 107 9 2 4 := ⟨rfl, rfl, rfl⟩
theorem E_108 : mE1 108 9 3 5 := ⟨rfl, rfl, rfl⟩
theorem E_109 : mE1 109 9 2 2 := ⟨rfl, rfl, rfl⟩
theorem E_110 : mE1 110 9 1 3 := ⟨rfl, rfl, rfl⟩
theorem E_111 : mE1 111 9 2 2 := ⟨rfl, rfl, rfl⟩
theorem E_112 : mE1 112 9 1 1 := ⟨rfl, rfl, rfl⟩
theorem E_113 : mE1 113 9 4 4 := ⟨rfl, rfl, rfl⟩
theorem E_114 : mE1 114 9 1 3 := ⟨rfl, rfl, rfl⟩
theorem E_115 : mE1 115 9 2 4 := ⟨rfl, rfl, rfl⟩
theorem E_116 : mE1 116 9 3 3 := ⟨rfl, rfl, rfl⟩
theorem E_117 : mE1 117 9 3 3 := ⟨rfl, rfl, rfl⟩
theorem E_118 : mE1 118 9 2 4 := ⟨rfl, rfl, rfl⟩
theorem E_119 : mE1 119 9 2 4 := ⟨rfl, rfl, rfl⟩
theorem E_120 : mE1 120 9 2 6 := ⟨rfl, rfl, rfl⟩
theorem E_121 : mE1 121 9 1 3 := ⟨rfl, rfl, rfl⟩
theorem E_122 : mE1 122 9 2 4 := ⟨rfl, rfl, rfl⟩
theorem E_123 : mE1 123 9 2 4 := ⟨rfl, rfl, rfl⟩
theorem E_124 : mE1 124 9 3 4 := ⟨rfl, rfl, rfl⟩
theorem E_125 : mE1 125 9 3 5 := ⟨rfl, rfl, rfl⟩
theorem E_126 : mE1 126 9 3 4 := ⟨rfl, rfl, rfl⟩
theorem E_127 : mE1 127 9 2 4 := ⟨rfl, rfl, rfl⟩
theorem E_128 : mE1 128 9 1 5 := ⟨rfl, rfl, rfl⟩
theorem E_129 : mE1 129 9 2 2 := ⟨rfl, rfl, rfl⟩
theorem E_130 : mE1 130 9 1 3 := ⟨rfl, rfl, rfl⟩
theorem E_131 : mE1 131 9 2 3 := ⟨rfl, rfl, rfl⟩
theorem E_132 : mE1 132 9 2 3 := ⟨rfl, rfl, rfl⟩
theorem E_133 : mE1 133 9 2 2 := ⟨rfl, rfl, rfl⟩
theorem E_134 : mE1 134 9 2 2 := ⟨rfl, rfl, rfl⟩
theorem E_135 : mE1 135 9 3 3 := ⟨rfl, rfl, rfl⟩
theorem E_136 : mE1 136 9 2 2 := ⟨rfl, rfl, rfl⟩
theorem E_137 : mE1 137 9 2 2 := ⟨rfl, rfl, rfl⟩
theorem E_138 : mE1 138 9 2 2 := ⟨rfl, rfl, rfl⟩
theorem E_139 : mE1 139 9 1 3 := ⟨rfl, rfl, rfl⟩
theorem E_140 : mE1 140 9 1 4 := ⟨rfl, rfl, rfl⟩
theorem E_142 : mE1 142 9 2 4 := ⟨rfl, rfl, rfl⟩
theorem E_143 : mE1 143 9 1 2 := ⟨rfl, rfl, rfl⟩
theorem E_146 : mE1 146 9 1 1 := ⟨rfl, rfl, rfl⟩
theorem E_147 : mE1 147 9 2 3 := ⟨rfl, rfl, rfl⟩
theorem E_150 : mE1 150 9 3 4 := ⟨rfl, rfl, rfl⟩
theorem E_151 : mE1 151 9 2 3 := ⟨rfl, rfl, rfl⟩
theorem E_152 : mE1 152 9 2 4 := ⟨rfl, rfl, rfl⟩
theorem E_153 : mE1 153 9 2 5 := ⟨rfl, rfl, rfl⟩
theorem E_154 : mE1 154 9 4 4 := ⟨rfl, rfl, rfl⟩
theorem E_157 : mE1 157 9 3 3 := ⟨rfl, rfl, rfl⟩
theorem E_159 : mE1 159 9 3 3 := ⟨rfl, rfl, rfl⟩
theorem E_160 : mE1 160 9 4 9 := ⟨rfl, rfl, rfl⟩
theorem E_164 : mE1 164 9 4 9 := ⟨rfl, rfl, rfl⟩
theorem E_165 : mE1 165 9 4 5 := ⟨rfl, rfl, rfl⟩
theorem E_166 : mE1 166 9 3 4 := ⟨rfl, rfl, rfl⟩
theorem E_167 : mE1 167 9 1 1 := ⟨rfl, rfl, rfl⟩
theorem E_168 : mE1 168 9 1 2 := ⟨rfl, rfl, rfl⟩
theorem E_169 : mE1 169 9 3 3 := ⟨rfl, rfl, rfl⟩
theorem E_173 : mE1 173 9 4 6 := ⟨rfl, rfl, rfl⟩
theorem E_174 : mE1 174 9 3 4 := ⟨rfl, rfl, rfl⟩
theorem E_175 : mE1 175 9 2 2 := ⟨rfl, rfl, rfl⟩
theorem E_177 : mE1 177 9 2 2 := ⟨rfl, rfl, rfl⟩
theorem E_178 : mE1 178 9 2 2 := ⟨rfl, rfl, rfl⟩
theorem E_179 : mE1 179 9 4 4 := ⟨rfl, rfl, rfl⟩
theorem E_180 : mE1 180 9 4 5 := ⟨rfl, rfl, rfl⟩
theorem E_181 : mE1 181 9 6 8 := ⟨rfl, rfl, rfl⟩
theorem E_183 : mE1 183 10 2 3 := ⟨rfl, rfl, rfl⟩
theorem E_185 : mE1 185 10 2 3 := ⟨rfl, rfl, rfl⟩
theorem E_186 : mE1 186 10 6 7 := ⟨rfl, rfl, rfl⟩
theorem E_187 : mE1 187 10 2 2 := ⟨rfl, rfl, rfl⟩
theorem E_188 : mE1 188 10 2 2 := ⟨rfl, rfl, rfl⟩
theorem E_189 : mE1 189 10 1 2 := ⟨rfl, rfl, rfl⟩
theorem E_203 : mE1 203 10 3 3 := ⟨rfl, rfl, rfl⟩
theorem E_205 : mE1 205 10 3 3 := ⟨rfl, rfl, rfl⟩
theorem E_208 : mE1 208 10 3 3 := ⟨rfl, rfl, rfl⟩
theorem E_209 : mE1 209 10 3 3 := ⟨rfl, rfl, rfl⟩
theorem E_223 : mE1 223 10 3 3 := ⟨rfl, rfl, rfl⟩
theorem E_224 : mE1 224 10 3 3 := ⟨rfl, rfl, rfl⟩
theorem E_227 : mE1 227 10 2 2 := ⟨rfl, rfl, rfl⟩
theorem E_228 : mE1 228 10 3 3 := ⟨rfl, rfl, rfl⟩
theorem E_230 : mE1 230 10 2 2 := ⟨rfl, rfl, rfl⟩
theorem E_232 : mE1 232 10 2 4 := ⟨rfl, rfl, rfl⟩
theorem E_233 : mE1 233 10 2 4 := ⟨rfl, rfl, rfl⟩
theorem E_235 : mE1 235 10 3 5 := ⟨rfl, rfl, rfl⟩
theorem E_236 : mE1 236 10 2 2 := ⟨rfl, rfl, rfl⟩
theorem E_238 : mE1 238 10 1 3 := ⟨rfl, rfl, rfl⟩
theorem E_239 : mE1 239 10 2 2 := ⟨rfl, rfl, rfl⟩
theorem E_241 : mE1 241 10 1 1 := ⟨rfl, rfl, rfl⟩
theorem E_243 : mE1 243 10 4 4 := ⟨rfl, rfl, rfl⟩
theorem E_244 : mE1 244 10 1 3 := ⟨rfl, rfl, rfl⟩
theorem E_245 : mE1 245 10 2 4 := ⟨rfl, rfl, rfl⟩
theorem E_247 : mE1 247 10 3 3 := ⟨rfl, rfl, rfl⟩
theorem E_248 : mE1 248 10 3 3 := ⟨rfl, rfl, rfl⟩
theorem E_249 : mE1 249 10 2 4 := ⟨rfl, rfl, rfl⟩
theorem E_250 : mE1 250 10 2 4 := ⟨rfl, rfl, rfl⟩
theorem E_251 : mE1 251 10 2 7 := ⟨rfl, rfl, rfl⟩
theorem E_252 : mE1 252 10 1 5 := ⟨rfl, rfl, rfl⟩
theorem E_253 : mE1 253 10 2 4 := ⟨rfl, rfl, rfl⟩
theorem E_254 : mE1 254 10 2 2 := ⟨rfl, rfl, rfl⟩
theorem E_257 : mE1 257 10 3 6 := ⟨rfl, rfl, rfl⟩
theorem E_258 : mE1 258 10 3 5 := ⟨rfl, rfl, rfl⟩
theorem E_259 : mE1 259 10 3 4 := ⟨rfl, rfl, rfl⟩
theorem E_260 : mE1 260 10 2 4 := ⟨rfl, rfl, rfl⟩
theorem E_261 : mE1 261 10 1 4 := ⟨rfl, rfl, rfl⟩
theorem E_263 : mE1 263 10 2 2 := ⟨rfl, rfl, rfl⟩
theorem E_264 : mE1 264 10 1 3 := ⟨rfl, rfl, rfl⟩
theorem E_265 : mE1 265 10 2 3 := ⟨rfl, rfl, rfl⟩
theorem E_266 : mE1 266 10 2 3 := ⟨rfl, rfl, rfl⟩
theorem E_267 : mE1 267 10 2 2 := ⟨rfl, rfl, rfl⟩
theorem E_270 : mE1 270 10 2 2 := ⟨rfl, rfl, rfl⟩
theorem E_277 : mE1 277 10 3 3 := ⟨rfl, rfl, rfl⟩
theorem E_278 : mE1 278 10 2 2 := ⟨rfl, rfl, rfl⟩
theorem E_280 : mE1 280 10 2 2 := ⟨rfl, rfl, rfl⟩
theorem E_281 : mE1 281 10 2 2 := ⟨rfl, rfl, rfl⟩
theorem E_282 : mE1 282 10 1 1 := ⟨rfl, rfl, rfl⟩
theorem E_283 : mE1 283 10 1 4 := ⟨rfl, rfl, rfl⟩
theorem E_285 : mE1 285 10 2 3 := ⟨rfl, rfl, rfl⟩
theorem E_286 : mE1 286 10 1 2 := ⟨rfl, rfl, rfl⟩
theorem E_288 : mE1 288 10 1 1 := ⟨rfl, rfl, rfl⟩
theorem E_289 : mE1 289 10 2 3 := ⟨rfl, rfl, rfl⟩
theorem E_295 : mE1 295 10 3 6 := ⟨rfl, rfl, rfl⟩
theorem E_296 : mE1 296 10 2 3 := ⟨rfl, rfl, rfl⟩
theorem E_298 : mE1 298 10 2 3 := ⟨rfl, rfl, rfl⟩
theorem E_299 : mE1 299 10 2 4 := ⟨rfl, rfl, rfl⟩
theorem E_300 : mE1 300 10 4 9 := ⟨rfl, rfl, rfl⟩
theorem E_304 : mE1 304 10 3 3 := ⟨rfl, rfl, rfl⟩
theorem E_307 : mE1 307 10 3 3 := ⟨rfl, rfl, rfl⟩
theorem E_308 : mE1 308 10 4 4 := ⟨rfl, rfl, rfl⟩
theorem E_311 : mE1 311 10 4 4 := ⟨rfl, rfl, rfl⟩
theorem E_312 : mE1 312 10 4 4 := ⟨rfl, rfl, rfl⟩
theorem E_314 : mE1 314 10 3 3 := ⟨rfl, rfl, rfl⟩
theorem E_315 : mE1 315 10 1 1 := ⟨rfl, rfl, rfl⟩
theorem E_316 : mE1 316 10 1 2 := ⟨rfl, rfl, rfl⟩
theorem E_317 : mE1 317 10 3 4 := ⟨rfl, rfl, rfl⟩
theorem E_320 : mE1 320 10 4 6 := ⟨rfl, rfl, rfl⟩
theorem E_321 : mE1 321 10 3 4 := ⟨rfl, rfl, rfl⟩
theorem E_322 : mE1 322 10 2 4 := ⟨rfl, rfl, rfl⟩
theorem E_323 : mE1 323 10 4 5 := ⟨rfl, rfl, rfl⟩
theorem E_324 : mE1 324 10 4 5 := ⟨rfl, rfl, rfl⟩
theorem E_326 : mE1 326 10 6 7 := ⟨rfl, rfl, rfl⟩
def gLaw_k0 (L : Nat) (q : Int32 × mT) : Option ((Int32 × mT) ⊕ (Int32 × mT)) :=
  (rdI (q.2.1 XB) L (q.1 + (1 : Int32))).bind fun x1 =>
  (rdI (q.2.1 XB) L (q.1 + (2 : Int32))).bind fun x2 =>
  (rdI (q.2.1 XB) L (q.1 + (3 : Int32))).bind fun x3 =>
  (rdI (q.2.1 XB) L (q.1 + (4 : Int32))).bind fun x4 =>
  (rdI (q.2.1 XB) L (q.1 + (5 : Int32))).bind fun x5 =>
  (gL_feed x1 x2 x3 x4 x5 q.2).bind fun p6 =>
  (rdI (p6.2.1 XB) L (q.1 + (1 : Int32))).bind fun x7 =>
  (rdI (p6.2.1 XB) L (q.1 + (2 : Int32))).bind fun x8 =>
  (rdI (p6.2.1 XB) L (q.1 + (3 : Int32))).bind fun x9 =>
  (rdI (p6.2.1 XB) L (q.1 + (4 : Int32))).bind fun x10 =>
  (rdI (p6.2.1 XB) L (q.1 + (5 : Int32))).bind fun x11 =>
  (gM_feed x7 x8 x9 x10 x11 p6.2).bind fun p12 =>
  if p6.1 = p12.1 then
    some (.inl (q.1 + (6 : Int32), p12.2))
  else
    some (.inr (((0 : Int32), p12.2)))
set_option maxRecDepth 8000 in
theorem gLaw_k0_ok {L d : Nat} (hd : 13 ≤ d + 1) : ∀ (q : Int32 × mT) (x : (Int32 × mT) ⊕ (Int32 × mT)), gLaw_k0 L q = some x → ∀ o, sK (fun q => Ev (d + 1) 335 18 [(0, .ref XB), (1, .ref 0), (2, .ref 294), (3, .int q.1)] [] (uS L q.2) o) (fun r => o = (some (.int r.1), uS L r.2)) x → Ev (d + 1) 335 344 [(0, .ref XB), (1, .ref 0), (2, .ref 294), (3, .int q.1)] [] (uS L q.2) o := by
  intro q x h o ho
  unfold gLaw_k0 at h
  refine Ev.seg D_335 [(.aload_n 1, 1), (.aload_n 0, 1), (.iload_n 3, 1), (.iconst 1, 1), (.iadd, 1)] (by decide +kernel) (j := 0) (pc' := 349) (lv' := [(0, .ref XB), (1, .ref 0), (2, .ref 294), (3, .int q.1)]) (st' := [.int (q.1 + (1 : Int32)), .ref XB, .ref 0]) rfl ?_
  obtain ⟨x1, e1, h⟩ := bd h
  refine Ev.iald D_335 (by decide +kernel) (S_aIx (by rfl) (Nat.le_refl _) e1) ?_
  refine Ev.seg D_335 [(.aload_n 0, 1), (.iload_n 3, 1), (.iconst 2, 1), (.iadd, 1)] (by decide +kernel) (j := 0) (pc' := 354) (lv' := [(0, .ref XB), (1, .ref 0), (2, .ref 294), (3, .int q.1)]) (st' := [.int (q.1 + (2 : Int32)), .ref XB, .int x1, .ref 0]) rfl ?_
  obtain ⟨x2, e2, h⟩ := bd h
  refine Ev.iald D_335 (by decide +kernel) (S_aIx (by rfl) (Nat.le_refl _) e2) ?_
  refine Ev.seg D_335 [(.aload_n 0, 1), (.iload_n 3, 1), (.iconst 3, 1), (.iadd, 1)] (by decide +kernel) (j := 0) (pc' := 359) (lv' := [(0, .ref XB), (1, .ref 0), (2, .ref 294), (3, .int q.1)]) (st' := [.int (q.1 + (3 : Int32)), .ref XB, .int x2, .int x1, .ref 0]) rfl ?_
  obtain ⟨x3, e3, h⟩ := bd h
  refine Ev.iald D_335 (by decide +kernel) (S_aIx (by rfl) (Nat.le_refl _) e3) ?_
  refine Ev.seg D_335 [(.aload_n 0, 1), (.iload_n 3, 1), (.iconst 4, 1), (.iadd, 1)] (by decide +kernel) (j := 0) (pc' := 364) (lv' := [(0, .ref XB), (1, .ref 0), (2, .ref 294), (3, .int q.1)]) (st' := [.int (q.1 + (4 : Int32)), .ref XB, .int x3, .int x2, .int x1, .ref 0]) rfl ?_
  obtain ⟨x4, e4, h⟩ := bd h
  refine Ev.iald D_335 (by decide +kernel) (S_aIx (by rfl) (Nat.le_refl _) e4) ?_
  refine Ev.seg D_335 [(.aload_n 0, 1), (.iload_n 3, 1), (.iconst 5, 1), (.iadd, 1)] (by decide +kernel) (j := 0) (pc' := 369) (lv' := [(0, .ref XB), (1, .ref 0), (2, .ref 294), (3, .int q.1)]) (st' := [.int (q.1 + (5 : Int32)), .ref XB, .int x4, .int x3, .int x2, .int x1, .ref 0]) rfl ?_
  obtain ⟨x5, e5, h⟩ := bd h
  refine Ev.iald D_335 (by decide +kernel) (S_aIx (by rfl) (Nat.le_refl _) e5) ?_
  obtain ⟨p6, e6, h⟩ := bd h
  refine Ev.callv D_335 E_91 (by decide +kernel) C_11_13 0 [.int x1, .int x2, .int x3, .int x4, .int x5] (r := []) rfl (gd_o k_0 (by decide)) rfl (Nat.le_of_ble_eq_true rfl) (Nat.le_of_ble_eq_true rfl) (gL_feed_ok (by omega)  e6) ?_
  refine Ev.seg D_335 [(.aload_n 2, 1), (.aload_n 0, 1), (.iload_n 3, 1), (.iconst 1, 1), (.iadd, 1)] (by decide +kernel) (j := 0) (pc' := 378) (lv' := [(0, .ref XB), (1, .ref 0), (2, .ref 294), (3, .int q.1)]) (st' := [.int (q.1 + (1 : Int32)), .ref XB, .ref 294, .int p6.1]) rfl ?_
  obtain ⟨x7, e7, h⟩ := bd h
  refine Ev.iald D_335 (by decide +kernel) (S_aIx (by rfl) (Nat.le_refl _) e7) ?_
  refine Ev.seg D_335 [(.aload_n 0, 1), (.iload_n 3, 1), (.iconst 2, 1), (.iadd, 1)] (by decide +kernel) (j := 0) (pc' := 383) (lv' := [(0, .ref XB), (1, .ref 0), (2, .ref 294), (3, .int q.1)]) (st' := [.int (q.1 + (2 : Int32)), .ref XB, .int x7, .ref 294, .int p6.1]) rfl ?_
  obtain ⟨x8, e8, h⟩ := bd h
  refine Ev.iald D_335 (by decide +kernel) (S_aIx (by rfl) (Nat.le_refl _) e8) ?_
  refine Ev.seg D_335 [(.aload_n 0, 1), (.iload_n 3, 1), (.iconst 3, 1), (.iadd, 1)] (by decide +kernel) (j := 0) (pc' := 388) (lv' := [(0, .ref XB), (1, .ref 0), (2, .ref 294), (3, .int q.1)]) (st' := [.int (q.1 + (3 : Int32)), .ref XB, .int x8, .int x7, .ref 294, .int p6.1]) rfl ?_
  obtain ⟨x9, e9, h⟩ := bd h
  refine Ev.iald D_335 (by decide +kernel) (S_aIx (by rfl) (Nat.le_refl _) e9) ?_
  refine Ev.seg D_335 [(.aload_n 0, 1), (.iload_n 3, 1), (.iconst 4, 1), (.iadd, 1)] (by decide +kernel) (j := 0) (pc' := 393) (lv' := [(0, .ref XB), (1, .ref 0), (2, .ref 294), (3, .int q.1)]) (st' := [.int (q.1 + (4 : Int32)), .ref XB, .int x9, .int x8, .int x7, .ref 294, .int p6.1]) rfl ?_
  obtain ⟨x10, e10, h⟩ := bd h
  refine Ev.iald D_335 (by decide +kernel) (S_aIx (by rfl) (Nat.le_refl _) e10) ?_
  refine Ev.seg D_335 [(.aload_n 0, 1), (.iload_n 3, 1), (.iconst 5, 1), (.iadd, 1)] (by decide +kernel) (j := 0) (pc' := 398) (lv' := [(0, .ref XB), (1, .ref 0), (2, .ref 294), (3, .int q.1)]) (st' := [.int (q.1 + (5 : Int32)), .ref XB, .int x10, .int x9, .int x8, .int x7, .ref 294, .int p6.1]) rfl ?_
  obtain ⟨x11, e11, h⟩ := bd h
  refine Ev.iald D_335 (by decide +kernel) (S_aIx (by rfl) (Nat.le_refl _) e11) ?_
  obtain ⟨p12, e12, h⟩ := bd h
  refine Ev.callv D_335 E_186 (by decide +kernel) C_11_17 294 [.int x7, .int x8, .int x9, .int x10, .int x11] (r := [.int p6.1]) rfl (gd_o k_294 (by decide)) rfl (Nat.le_of_ble_eq_true rfl) (Nat.le_of_ble_eq_true rfl) (gM_feed_ok (by omega)  e12) ?_
  refine Ev.icmp D_335 (c := .eq) (off := 1986) (by decide +kernel) (t := 2388) rfl (fun c13 => ?_) (fun c13 => ?_)
  · have c13 : p6.1 = p12.1 := of_decide_eq_true c13
    rw [if_pos c13] at h
    refine Ev.seg D_335 [(.iinc 3 6, 3), (.goto (-2373), 3)] (by decide +kernel) (j := 0) (pc' := 18) (lv' := [(3, .int (q.1 + (6 : Int32))), (0, .ref XB), (1, .ref 0), (2, .ref 294)]) (st' := []) rfl ?_
    cases h
    exact Ev.sub (lv' := [(0, .ref XB), (1, .ref 0), (2, .ref 294), (3, .int (q.1 + (6 : Int32)))]) (subL_cons rfl (subL_cons rfl (subL_cons rfl (subL_cons rfl subL_nil)))) ho
  · have c13 : ¬ p6.1 = p12.1 := of_decide_eq_false c13
    rw [if_neg c13] at h
    refine Ev.seg D_335 [(.iconst 0, 1)] (by decide +kernel) (j := 0) (pc' := 406) (lv' := [(0, .ref XB), (1, .ref 0), (2, .ref 294), (3, .int q.1)]) (st' := [.int (0 : Int32)]) rfl ?_
    cases h
    obtain rfl : o = _ := ho
    exact Ev.zret D_335 (by decide) (by decide +kernel)
def gLaw_k1 (L : Nat) (q : Int32 × mT) : Option ((Int32 × mT) ⊕ (Int32 × mT)) :=
  (rdI (q.2.1 XB) L (q.1 + (1 : Int32))).bind fun x1 =>
  (gL_end x1 q.2).bind fun p2 =>
  (rdI (p2.2.1 XB) L (q.1 + (1 : Int32))).bind fun x3 =>
  (gM_end x3 p2.2).bind fun p4 =>
  if p2.1 = p4.1 then
    some (.inl (q.1 + (6 : Int32), p4.2))
  else
    some (.inr (((0 : Int32), p4.2)))
set_option maxRecDepth 8000 in
theorem gLaw_k1_ok {L d : Nat} (hd : 13 ≤ d + 1) : ∀ (q : Int32 × mT) (x : (Int32 × mT) ⊕ (Int32 × mT)), gLaw_k1 L q = some x → ∀ o, sK (fun q => Ev (d + 1) 335 18 [(0, .ref XB), (1, .ref 0), (2, .ref 294), (3, .int q.1)] [] (uS L q.2) o) (fun r => o = (some (.int r.1), uS L r.2)) x → Ev (d + 1) 335 407 [(0, .ref XB), (1, .ref 0), (2, .ref 294), (3, .int q.1)] [] (uS L q.2) o := by
  intro q x h o ho
  unfold gLaw_k1 at h
  refine Ev.seg D_335 [(.aload_n 1, 1), (.aload_n 0, 1), (.iload_n 3, 1), (.iconst 1, 1), (.iadd, 1)] (by decide +kernel) (j := 0) (pc' := 412) (lv' := [(0, .ref XB), (1, .ref 0), (2, .ref 294), (3, .int q.1)]) (st' := [.int (q.1 + (1 : Int32)), .ref XB, .ref 0]) rfl ?_
  obtain ⟨x1, e1, h⟩ := bd h
  refine Ev.iald D_335 (by decide +kernel) (S_aIx (by rfl) (Nat.le_refl _) e1) ?_
  obtain ⟨p2, e2, h⟩ := bd h
  refine Ev.callv D_335 E_92 (by decide +kernel) C_11_18 0 [.int x1] (r := []) rfl (gd_o k_0 (by decide)) rfl (Nat.le_of_ble_eq_true rfl) (Nat.le_of_ble_eq_true rfl) (gL_end_ok (by omega)  e2) ?_
  refine Ev.seg D_335 [(.aload_n 2, 1), (.aload_n 0, 1), (.iload_n 3, 1), (.iconst 1, 1), (.iadd, 1)] (by decide +kernel) (j := 0) (pc' := 421) (lv' := [(0, .ref XB), (1, .ref 0), (2, .ref 294), (3, .int q.1)]) (st' := [.int (q.1 + (1 : Int32)), .ref XB, .ref 294, .int p2.1]) rfl ?_
  obtain ⟨x3, e3, h⟩ := bd h
  refine Ev.iald D_335 (by decide +kernel) (S_aIx (by rfl) (Nat.le_refl _) e3) ?_
  obtain ⟨p4, e4, h⟩ := bd h
  refine Ev.callv D_335 E_187 (by decide +kernel) C_11_22 294 [.int x3] (r := [.int p2.1]) rfl (gd_o k_294 (by decide)) rfl (Nat.le_of_ble_eq_true rfl) (Nat.le_of_ble_eq_true rfl) (gM_end_ok (by omega)  e4) ?_
  refine Ev.icmp D_335 (c := .eq) (off := 1963) (by decide +kernel) (t := 2388) rfl (fun c5 => ?_) (fun c5 => ?_)
  · have c5 : p2.1 = p4.1 := of_decide_eq_true c5
    rw [if_pos c5] at h
    refine Ev.seg D_335 [(.iinc 3 6, 3), (.goto (-2373), 3)] (by decide +kernel) (j := 0) (pc' := 18) (lv' := [(3, .int (q.1 + (6 : Int32))), (0, .ref XB), (1, .ref 0), (2, .ref 294)]) (st' := []) rfl ?_
    cases h
    exact Ev.sub (lv' := [(0, .ref XB), (1, .ref 0), (2, .ref 294), (3, .int (q.1 + (6 : Int32)))]) (subL_cons rfl (subL_cons rfl (subL_cons rfl (subL_cons rfl subL_nil)))) ho
  · have c5 : ¬ p2.1 = p4.1 := of_decide_eq_false c5
    rw [if_neg c5] at h
    refine Ev.seg D_335 [(.iconst 0, 1)] (by decide +kernel) (j := 0) (pc' := 429) (lv' := [(0, .ref XB), (1, .ref 0), (2, .ref 294), (3, .int q.1)]) (st' := [.int (0 : Int32)]) rfl ?_
    cases h
    obtain rfl : o = _ := ho
    exact Ev.zret D_335 (by decide) (by decide +kernel)
def gLaw_k2 (L : Nat) (q : Int32 × mT) : Option ((Int32 × mT) ⊕ (Int32 × mT)) :=
  (gL_race q.2).bind fun p1 =>
  (gM_race p1.2).bind fun p2 =>
  if p1.1 = p2.1 then
    some (.inl (q.1 + (6 : Int32), p2.2))
  else
    some (.inr (((0 : Int32), p2.2)))
set_option maxRecDepth 8000 in
theorem gLaw_k2_ok {L d : Nat} (hd : 13 ≤ d + 1) : ∀ (q : Int32 × mT) (x : (Int32 × mT) ⊕ (Int32 × mT)), gLaw_k2 L q = some x → ∀ o, sK (fun q => Ev (d + 1) 335 18 [(0, .ref XB), (1, .ref 0), (2, .ref 294), (3, .int q.1)] [] (uS L q.2) o) (fun r => o = (some (.int r.1), uS L r.2)) x → Ev (d + 1) 335 430 [(0, .ref XB), (1, .ref 0), (2, .ref 294), (3, .int q.1)] [] (uS L q.2) o := by
  intro q x h o ho
  unfold gLaw_k2 at h
  refine Ev.seg D_335 [(.aload_n 1, 1)] (by decide +kernel) (j := 0) (pc' := 431) (lv' := [(0, .ref XB), (1, .ref 0), (2, .ref 294), (3, .int q.1)]) (st' := [.ref 0]) rfl ?_
  obtain ⟨p1, e1, h⟩ := bd h
  refine Ev.callv D_335 E_93 (by decide +kernel) C_11_23 0 [] (r := []) rfl (gd_o k_0 (by decide)) rfl (Nat.le_of_ble_eq_true rfl) (Nat.le_of_ble_eq_true rfl) (gL_race_ok (by omega)  e1) ?_
  refine Ev.seg D_335 [(.aload_n 2, 1)] (by decide +kernel) (j := 0) (pc' := 435) (lv' := [(0, .ref XB), (1, .ref 0), (2, .ref 294), (3, .int q.1)]) (st' := [.ref 294, .int p1.1]) rfl ?_
  obtain ⟨p2, e2, h⟩ := bd h
  refine Ev.callv D_335 E_189 (by decide +kernel) C_11_27 294 [] (r := [.int p1.1]) rfl (gd_o k_294 (by decide)) rfl (Nat.le_of_ble_eq_true rfl) (Nat.le_of_ble_eq_true rfl) (gM_race_ok (by omega)  e2) ?_
  refine Ev.icmp D_335 (c := .eq) (off := 1950) (by decide +kernel) (t := 2388) rfl (fun c3 => ?_) (fun c3 => ?_)
  · have c3 : p1.1 = p2.1 := of_decide_eq_true c3
    rw [if_pos c3] at h
    refine Ev.seg D_335 [(.iinc 3 6, 3), (.goto (-2373), 3)] (by decide +kernel) (j := 0) (pc' := 18) (lv' := [(3, .int (q.1 + (6 : Int32))), (0, .ref XB), (1, .ref 0), (2, .ref 294)]) (st' := []) rfl ?_
    cases h
    exact Ev.sub (lv' := [(0, .ref XB), (1, .ref 0), (2, .ref 294), (3, .int (q.1 + (6 : Int32)))]) (subL_cons rfl (subL_cons rfl (subL_cons rfl (subL_cons rfl subL_nil)))) ho
  · have c3 : ¬ p1.1 = p2.1 := of_decide_eq_false c3
    rw [if_neg c3] at h
    refine Ev.seg D_335 [(.iconst 0, 1)] (by decide +kernel) (j := 0) (pc' := 442) (lv' := [(0, .ref XB), (1, .ref 0), (2, .ref 294), (3, .int q.1)]) (st' := [.int (0 : Int32)]) rfl ?_
    cases h
    obtain rfl : o = _ := ho
    exact Ev.zret D_335 (by decide) (by decide +kernel)
def gLaw_k3 (L : Nat) (q : Int32 × mT) : Option ((Int32 × mT) ⊕ (Int32 × mT)) :=
  (rdI (q.2.1 XB) L (q.1 + (1 : Int32))).bind fun x1 =>
  (gL_fault x1 q.2).bind fun p2 =>
  (rdI (q.2.1 XB) L (q.1 + (1 : Int32))).bind fun x3 =>
  (gM_fault x3 q.2).bind fun p4 =>
  if p2 = p4 then
    some (.inl (q.1 + (6 : Int32), q.2))
  else
    some (.inr (((0 : Int32), q.2)))
set_option maxRecDepth 8000 in
theorem gLaw_k3_ok {L d : Nat} (hd : 13 ≤ d + 1) : ∀ (q : Int32 × mT) (x : (Int32 × mT) ⊕ (Int32 × mT)), gLaw_k3 L q = some x → ∀ o, sK (fun q => Ev (d + 1) 335 18 [(0, .ref XB), (1, .ref 0), (2, .ref 294), (3, .int q.1)] [] (uS L q.2) o) (fun r => o = (some (.int r.1), uS L r.2)) x → Ev (d + 1) 335 443 [(0, .ref XB), (1, .ref 0), (2, .ref 294), (3, .int q.1)] [] (uS L q.2) o := by
  intro q x h o ho
  unfold gLaw_k3 at h
  refine Ev.seg D_335 [(.aload_n 1, 1), (.aload_n 0, 1), (.iload_n 3, 1), (.iconst 1, 1), (.iadd, 1)] (by decide +kernel) (j := 0) (pc' := 448) (lv' := [(0, .ref XB), (1, .ref 0), (2, .ref 294), (3, .int q.1)]) (st' := [.int (q.1 + (1 : Int32)), .ref XB, .ref 0]) rfl ?_
  obtain ⟨x1, e1, h⟩ := bd h
  refine Ev.iald D_335 (by decide +kernel) (S_aIx (by rfl) (Nat.le_refl _) e1) ?_
  obtain ⟨p2, e2, h⟩ := bd h
  refine Ev.callv D_335 E_95 (by decide +kernel) C_11_28 0 [.int x1] (r := []) rfl (gd_o k_0 (by decide)) rfl (Nat.le_of_ble_eq_true rfl) (Nat.le_of_ble_eq_true rfl) (gL_fault_ok (by omega)  e2) ?_
  refine Ev.seg D_335 [(.aload_n 2, 1), (.aload_n 0, 1), (.iload_n 3, 1), (.iconst 1, 1), (.iadd, 1)] (by decide +kernel) (j := 0) (pc' := 457) (lv' := [(0, .ref XB), (1, .ref 0), (2, .ref 294), (3, .int q.1)]) (st' := [.int (q.1 + (1 : Int32)), .ref XB, .ref 294, .int p2]) rfl ?_
  obtain ⟨x3, e3, h⟩ := bd h
  refine Ev.iald D_335 (by decide +kernel) (S_aIx (by rfl) (Nat.le_refl _) e3) ?_
  obtain ⟨p4, e4, h⟩ := bd h
  refine Ev.callv D_335 E_188 (by decide +kernel) C_11_31 294 [.int x3] (r := [.int p2]) rfl (gd_o k_294 (by decide)) rfl (Nat.le_of_ble_eq_true rfl) (Nat.le_of_ble_eq_true rfl) (gM_fault_ok (by omega)  e4) ?_
  refine Ev.icmp D_335 (c := .eq) (off := 1927) (by decide +kernel) (t := 2388) rfl (fun c5 => ?_) (fun c5 => ?_)
  · have c5 : p2 = p4 := of_decide_eq_true c5
    rw [if_pos c5] at h
    refine Ev.seg D_335 [(.iinc 3 6, 3), (.goto (-2373), 3)] (by decide +kernel) (j := 0) (pc' := 18) (lv' := [(3, .int (q.1 + (6 : Int32))), (0, .ref XB), (1, .ref 0), (2, .ref 294)]) (st' := []) rfl ?_
    cases h
    exact Ev.sub (lv' := [(0, .ref XB), (1, .ref 0), (2, .ref 294), (3, .int (q.1 + (6 : Int32)))]) (subL_cons rfl (subL_cons rfl (subL_cons rfl (subL_cons rfl subL_nil)))) ho
  · have c5 : ¬ p2 = p4 := of_decide_eq_false c5
    rw [if_neg c5] at h
    refine Ev.seg D_335 [(.iconst 0, 1)] (by decide +kernel) (j := 0) (pc' := 465) (lv' := [(0, .ref XB), (1, .ref 0), (2, .ref 294), (3, .int q.1)]) (st' := [.int (0 : Int32)]) rfl ?_
    cases h
    obtain rfl : o = _ := ho
    exact Ev.zret D_335 (by decide) (by decide +kernel)
def gLaw_k4 (L : Nat) (q : Int32 × mT) : Option ((Int32 × mT) ⊕ (Int32 × mT)) :=
  (rdI (q.2.1 XB) L (q.1 + (1 : Int32))).bind fun x1 =>
  (rdI (q.2.1 XB) L (q.1 + (2 : Int32))).bind fun x2 =>
  (gL_boat x1 x2 q.2).bind fun p3 =>
  (rdI (q.2.1 XB) L (q.1 + (1 : Int32))).bind fun x4 =>
  (rdI (q.2.1 XB) L (q.1 + (2 : Int32))).bind fun x5 =>
  (gM_boat x4 x5 q.2).bind fun p6 =>
  if p3 = p6 then
    some (.inl (q.1 + (6 : Int32), q.2))
  else
    some (.inr (((0 : Int32), q.2)))
set_option maxRecDepth 8000 in
theorem gLaw_k4_ok {L d : Nat} (hd : 13 ≤ d + 1) : ∀ (q : Int32 × mT) (x : (Int32 × mT) ⊕ (Int32 × mT)), gLaw_k4 L q = some x → ∀ o, sK (fun q => Ev (d + 1) 335 18 [(0, .ref XB), (1, .ref 0), (2, .ref 294), (3, .int q.1)] [] (uS L q.2) o) (fun r => o = (some (.int r.1), uS L r.2)) x → Ev (d + 1) 335 466 [(0, .ref XB), (1, .ref 0), (2, .ref 294), (3, .int q.1)] [] (uS L q.2) o := by
  intro q x h o ho
  unfold gLaw_k4 at h
  refine Ev.seg D_335 [(.aload_n 1, 1), (.aload_n 0, 1), (.iload_n 3, 1), (.iconst 1, 1), (.iadd, 1)] (by decide +kernel) (j := 0) (pc' := 471) (lv' := [(0, .ref XB), (1, .ref 0), (2, .ref 294), (3, .int q.1)]) (st' := [.int (q.1 + (1 : Int32)), .ref XB, .ref 0]) rfl ?_
  obtain ⟨x1, e1, h⟩ := bd h
  refine Ev.iald D_335 (by decide +kernel) (S_aIx (by rfl) (Nat.le_refl _) e1) ?_
  refine Ev.seg D_335 [(.aload_n 0, 1), (.iload_n 3, 1), (.iconst 2, 1), (.iadd, 1)] (by decide +kernel) (j := 0) (pc' := 476) (lv' := [(0, .ref XB), (1, .ref 0), (2, .ref 294), (3, .int q.1)]) (st' := [.int (q.1 + (2 : Int32)), .ref XB, .int x1, .ref 0]) rfl ?_
  obtain ⟨x2, e2, h⟩ := bd h
  refine Ev.iald D_335 (by decide +kernel) (S_aIx (by rfl) (Nat.le_refl _) e2) ?_
  obtain ⟨p3, e3, h⟩ := bd h
  refine Ev.callv D_335 E_96 (by decide +kernel) C_11_32 0 [.int x1, .int x2] (r := []) rfl (gd_o k_0 (by decide)) rfl (Nat.le_of_ble_eq_true rfl) (Nat.le_of_ble_eq_true rfl) (gL_boat_ok (by omega)  e3) ?_
  refine Ev.seg D_335 [(.aload_n 2, 1), (.aload_n 0, 1), (.iload_n 3, 1), (.iconst 1, 1), (.iadd, 1)] (by decide +kernel) (j := 0) (pc' := 485) (lv' := [(0, .ref XB), (1, .ref 0), (2, .ref 294), (3, .int q.1)]) (st' := [.int (q.1 + (1 : Int32)), .ref XB, .ref 294, .int p3]) rfl ?_
  obtain ⟨x4, e4, h⟩ := bd h
  refine Ev.iald D_335 (by decide +kernel) (S_aIx (by rfl) (Nat.le_refl _) e4) ?_
  refine Ev.seg D_335 [(.aload_n 0, 1), (.iload_n 3, 1), (.iconst 2, 1), (.iadd, 1)] (by decide +kernel) (j := 0) (pc' := 490) (lv' := [(0, .ref XB), (1, .ref 0), (2, .ref 294), (3, .int q.1)]) (st' := [.int (q.1 + (2 : Int32)), .ref XB, .int x4, .ref 294, .int p3]) rfl ?_
  obtain ⟨x5, e5, h⟩ := bd h
  refine Ev.iald D_335 (by decide +kernel) (S_aIx (by rfl) (Nat.le_refl _) e5) ?_
  obtain ⟨p6, e6, h⟩ := bd h
  refine Ev.callv D_335 E_203 (by decide +kernel) C_11_36 294 [.int x4, .int x5] (r := [.int p3]) rfl (gd_o k_294 (by decide)) rfl (Nat.le_of_ble_eq_true rfl) (Nat.le_of_ble_eq_true rfl) (gM_boat_ok (by omega)  e6) ?_
  refine Ev.icmp D_335 (c := .eq) (off := 1894) (by decide +kernel) (t := 2388) rfl (fun c7 => ?_) (fun c7 => ?_)
  · have c7 : p3 = p6 := of_decide_eq_true c7
    rw [if_pos c7] at h
    refine Ev.seg D_335 [(.iinc 3 6, 3), (.goto (-2373), 3)] (by decide +kernel) (j := 0) (pc' := 18) (lv' := [(3, .int (q.1 + (6 : Int32))), (0, .ref XB), (1, .ref 0), (2, .ref 294)]) (st' := []) rfl ?_
    cases h
    exact Ev.sub (lv' := [(0, .ref XB), (1, .ref 0), (2, .ref 294), (3, .int (q.1 + (6 : Int32)))]) (subL_cons rfl (subL_cons rfl (subL_cons rfl (subL_cons rfl subL_nil)))) ho
  · have c7 : ¬ p3 = p6 := of_decide_eq_false c7
    rw [if_neg c7] at h
    refine Ev.seg D_335 [(.iconst 0, 1)] (by decide +kernel) (j := 0) (pc' := 498) (lv' := [(0, .ref XB), (1, .ref 0), (2, .ref 294), (3, .int q.1)]) (st' := [.int (0 : Int32)]) rfl ?_
    cases h
    obtain rfl : o = _ := ho
    exact Ev.zret D_335 (by decide) (by decide +kernel)
def gLaw_k5 (L : Nat) (q : Int32 × mT) : Option ((Int32 × mT) ⊕ (Int32 × mT)) :=
  (rdI (q.2.1 XB) L (q.1 + (1 : Int32))).bind fun x1 =>
  (rdI (q.2.1 XB) L (q.1 + (2 : Int32))).bind fun x2 =>
  (gL_watcher x1 x2 q.2).bind fun p3 =>
  (rdI (q.2.1 XB) L (q.1 + (1 : Int32))).bind fun x4 =>
  (rdI (q.2.1 XB) L (q.1 + (2 : Int32))).bind fun x5 =>
  (gM_watcher x4 x5 q.2).bind fun p6 =>
  if p3 = p6 then
    some (.inl (q.1 + (6 : Int32), q.2))
  else
    some (.inr (((0 : Int32), q.2)))
set_option maxRecDepth 8000 in
theorem gLaw_k5_ok {L d : Nat} (hd : 13 ≤ d + 1) : ∀ (q : Int32 × mT) (x : (Int32 × mT) ⊕ (Int32 × mT)), gLaw_k5 L q = some x → ∀ o, sK (fun q => Ev (d + 1) 335 18 [(0, .ref XB), (1, .ref 0), (2, .ref 294), (3, .int q.1)] [] (uS L q.2) o) (fun r => o = (some (.int r.1), uS L r.2)) x → Ev (d + 1) 335 499 [(0, .ref XB), (1, .ref 0), (2, .ref 294), (3, .int q.1)] [] (uS L q.2) o := by
  intro q x h o ho
  unfold gLaw_k5 at h
  refine Ev.seg D_335 [(.aload_n 1, 1), (.aload_n 0, 1), (.iload_n 3, 1), (.iconst 1, 1), (.iadd, 1)] (by decide +kernel) (j := 0) (pc' := 504) (lv' := [(0, .ref XB), (1, .ref 0), (2, .ref 294), (3, .int q.1)]) (st' := [.int (q.1 + (1 : Int32)), .ref XB, .ref 0]) rfl ?_
  obtain ⟨x1, e1, h⟩ := bd h
  refine Ev.iald D_335 (by decide +kernel) (S_aIx (by rfl) (Nat.le_refl _) e1) ?_
  refine Ev.seg D_335 [(.aload_n 0, 1), (.iload_n 3, 1), (.iconst 2, 1), (.iadd, 1)] (by decide +kernel) (j := 0) (pc' := 509) (lv' := [(0, .ref XB), (1, .ref 0), (2, .ref 294), (3, .int q.1)]) (st' := [.int (q.1 + (2 : Int32)), .ref XB, .int x1, .ref 0]) rfl ?_
  obtain ⟨x2, e2, h⟩ := bd h
  refine Ev.iald D_335 (by decide +kernel) (S_aIx (by rfl) (Nat.le_refl _) e2) ?_
  obtain ⟨p3, e3, h⟩ := bd h
  refine Ev.callv D_335 E_98 (by decide +kernel) C_11_37 0 [.int x1, .int x2] (r := []) rfl (gd_o k_0 (by decide)) rfl (Nat.le_of_ble_eq_true rfl) (Nat.le_of_ble_eq_true rfl) (gL_watcher_ok (by omega)  e3) ?_
  refine Ev.seg D_335 [(.aload_n 2, 1), (.aload_n 0, 1), (.iload_n 3, 1), (.iconst 1, 1), (.iadd, 1)] (by decide +kernel) (j := 0) (pc' := 518) (lv' := [(0, .ref XB), (1, .ref 0), (2, .ref 294), (3, .int q.1)]) (st' := [.int (q.1 + (1 : Int32)), .ref XB, .ref 294, .int p3]) rfl ?_
  obtain ⟨x4, e4, h⟩ := bd h
  refine Ev.iald D_335 (by decide +kernel) (S_aIx (by rfl) (Nat.le_refl _) e4) ?_
  refine Ev.seg D_335 [(.aload_n 0, 1), (.iload_n 3, 1), (.iconst 2, 1), (.iadd, 1)] (by decide +kernel) (j := 0) (pc' := 523) (lv' := [(0, .ref XB), (1, .ref 0), (2, .ref 294), (3, .int q.1)]) (st' := [.int (q.1 + (2 : Int32)), .ref XB, .int x4, .ref 294, .int p3]) rfl ?_
  obtain ⟨x5, e5, h⟩ := bd h
  refine Ev.iald D_335 (by decide +kernel) (S_aIx (by rfl) (Nat.le_refl _) e5) ?_
  obtain ⟨p6, e6, h⟩ := bd h
  refine Ev.callv D_335 E_205 (by decide +kernel) C_11_40 294 [.int x4, .int x5] (r := [.int p3]) rfl (gd_o k_294 (by decide)) rfl (Nat.le_of_ble_eq_true rfl) (Nat.le_of_ble_eq_true rfl) (gM_watcher_ok (by omega)  e6) ?_
  refine Ev.icmp D_335 (c := .eq) (off := 1861) (by decide +kernel) (t := 2388) rfl (fun c7 => ?_) (fun c7 => ?_)
  · have c7 : p3 = p6 := of_decide_eq_true c7
    rw [if_pos c7] at h
    refine Ev.seg D_335 [(.iinc 3 6, 3), (.goto (-2373), 3)] (by decide +kernel) (j := 0) (pc' := 18) (lv' := [(3, .int (q.1 + (6 : Int32))), (0, .ref XB), (1, .ref 0), (2, .ref 294)]) (st' := []) rfl ?_
    cases h
    exact Ev.sub (lv' := [(0, .ref XB), (1, .ref 0), (2, .ref 294), (3, .int (q.1 + (6 : Int32)))]) (subL_cons rfl (subL_cons rfl (subL_cons rfl (subL_cons rfl subL_nil)))) ho
  · have c7 : ¬ p3 = p6 := of_decide_eq_false c7
    rw [if_neg c7] at h
    refine Ev.seg D_335 [(.iconst 0, 1)] (by decide +kernel) (j := 0) (pc' := 531) (lv' := [(0, .ref XB), (1, .ref 0), (2, .ref 294), (3, .int q.1)]) (st' := [.int (0 : Int32)]) rfl ?_
    cases h
    obtain rfl : o = _ := ho
    exact Ev.zret D_335 (by decide) (by decide +kernel)
def gLaw_k6 (L : Nat) (q : Int32 × mT) : Option ((Int32 × mT) ⊕ (Int32 × mT)) :=
  (rdI (q.2.1 XB) L (q.1 + (1 : Int32))).bind fun x1 =>
  (rdI (q.2.1 XB) L (q.1 + (2 : Int32))).bind fun x2 =>
  (gL_show x1 x2 q.2).bind fun p3 =>
  (rdI (q.2.1 XB) L (q.1 + (1 : Int32))).bind fun x4 =>
  (rdI (q.2.1 XB) L (q.1 + (2 : Int32))).bind fun x5 =>
  (gM_show x4 x5 q.2).bind fun p6 =>
  if p3 = p6 then
    some (.inl (q.1 + (6 : Int32), q.2))
  else
    some (.inr (((0 : Int32), q.2)))
set_option maxRecDepth 8000 in
theorem gLaw_k6_ok {L d : Nat} (hd : 13 ≤ d + 1) : ∀ (q : Int32 × mT) (x : (Int32 × mT) ⊕ (Int32 × mT)), gLaw_k6 L q = some x → ∀ o, sK (fun q => Ev (d + 1) 335 18 [(0, .ref XB), (1, .ref 0), (2, .ref 294), (3, .int q.1)] [] (uS L q.2) o) (fun r => o = (some (.int r.1), uS L r.2)) x → Ev (d + 1) 335 532 [(0, .ref XB), (1, .ref 0), (2, .ref 294), (3, .int q.1)] [] (uS L q.2) o := by
  intro q x h o ho
  unfold gLaw_k6 at h
  refine Ev.seg D_335 [(.aload_n 1, 1), (.aload_n 0, 1), (.iload_n 3, 1), (.iconst 1, 1), (.iadd, 1)] (by decide +kernel) (j := 0) (pc' := 537) (lv' := [(0, .ref XB), (1, .ref 0), (2, .ref 294), (3, .int q.1)]) (st' := [.int (q.1 + (1 : Int32)), .ref XB, .ref 0]) rfl ?_
  obtain ⟨x1, e1, h⟩ := bd h
  refine Ev.iald D_335 (by decide +kernel) (S_aIx (by rfl) (Nat.le_refl _) e1) ?_
  refine Ev.seg D_335 [(.aload_n 0, 1), (.iload_n 3, 1), (.iconst 2, 1), (.iadd, 1)] (by decide +kernel) (j := 0) (pc' := 542) (lv' := [(0, .ref XB), (1, .ref 0), (2, .ref 294), (3, .int q.1)]) (st' := [.int (q.1 + (2 : Int32)), .ref XB, .int x1, .ref 0]) rfl ?_
  obtain ⟨x2, e2, h⟩ := bd h
  refine Ev.iald D_335 (by decide +kernel) (S_aIx (by rfl) (Nat.le_refl _) e2) ?_
  obtain ⟨p3, e3, h⟩ := bd h
  refine Ev.callv D_335 E_99 (by decide +kernel) C_11_41 0 [.int x1, .int x2] (r := []) rfl (gd_o k_0 (by decide)) rfl (Nat.le_of_ble_eq_true rfl) (Nat.le_of_ble_eq_true rfl) (gL_show_ok (by omega)  e3) ?_
  refine Ev.seg D_335 [(.aload_n 2, 1), (.aload_n 0, 1), (.iload_n 3, 1), (.iconst 1, 1), (.iadd, 1)] (by decide +kernel) (j := 0) (pc' := 551) (lv' := [(0, .ref XB), (1, .ref 0), (2, .ref 294), (3, .int q.1)]) (st' := [.int (q.1 + (1 : Int32)), .ref XB, .ref 294, .int p3]) rfl ?_
  obtain ⟨x4, e4, h⟩ := bd h
  refine Ev.iald D_335 (by decide +kernel) (S_aIx (by rfl) (Nat.le_refl _) e4) ?_
  refine Ev.seg D_335 [(.aload_n 0, 1), (.iload_n 3, 1), (.iconst 2, 1), (.iadd, 1)] (by decide +kernel) (j := 0) (pc' := 556) (lv' := [(0, .ref XB), (1, .ref 0), (2, .ref 294), (3, .int q.1)]) (st' := [.int (q.1 + (2 : Int32)), .ref XB, .int x4, .ref 294, .int p3]) rfl ?_
  obtain ⟨x5, e5, h⟩ := bd h
  refine Ev.iald D_335 (by decide +kernel) (S_aIx (by rfl) (Nat.le_refl _) e5) ?_
  obtain ⟨p6, e6, h⟩ := bd h
  refine Ev.callv D_335 E_208 (by decide +kernel) C_11_44 294 [.int x4, .int x5] (r := [.int p3]) rfl (gd_o k_294 (by decide)) rfl (Nat.le_of_ble_eq_true rfl) (Nat.le_of_ble_eq_true rfl) (gM_show_ok (by omega)  e6) ?_
  refine Ev.icmp D_335 (c := .eq) (off := 1828) (by decide +kernel) (t := 2388) rfl (fun c7 => ?_) (fun c7 => ?_)
  · have c7 : p3 = p6 := of_decide_eq_true c7
    rw [if_pos c7] at h
    refine Ev.seg D_335 [(.iinc 3 6, 3), (.goto (-2373), 3)] (by decide +kernel) (j := 0) (pc' := 18) (lv' := [(3, .int (q.1 + (6 : Int32))), (0, .ref XB), (1, .ref 0), (2, .ref 294)]) (st' := []) rfl ?_
    cases h
    exact Ev.sub (lv' := [(0, .ref XB), (1, .ref 0), (2, .ref 294), (3, .int (q.1 + (6 : Int32)))]) (subL_cons rfl (subL_cons rfl (subL_cons rfl (subL_cons rfl subL_nil)))) ho
  · have c7 : ¬ p3 = p6 := of_decide_eq_false c7
    rw [if_neg c7] at h
    refine Ev.seg D_335 [(.iconst 0, 1)] (by decide +kernel) (j := 0) (pc' := 564) (lv' := [(0, .ref XB), (1, .ref 0), (2, .ref 294), (3, .int q.1)]) (st' := [.int (0 : Int32)]) rfl ?_
    cases h
    obtain rfl : o = _ := ho
    exact Ev.zret D_335 (by decide) (by decide +kernel)
def gLaw_k7 (L : Nat) (q : Int32 × mT) : Option ((Int32 × mT) ⊕ (Int32 × mT)) :=
  (rdI (q.2.1 XB) L (q.1 + (1 : Int32))).bind fun x1 =>
  (rdI (q.2.1 XB) L (q.1 + (2 : Int32))).bind fun x2 =>
  (gL_place x1 x2 q.2).bind fun p3 =>
  (rdI (q.2.1 XB) L (q.1 + (1 : Int32))).bind fun x4 =>
  (rdI (q.2.1 XB) L (q.1 + (2 : Int32))).bind fun x5 =>
  (gM_place x4 x5 q.2).bind fun p6 =>
  if p3 = p6.1 then
    some (.inl (q.1 + (6 : Int32), p6.2))
  else
    some (.inr (((0 : Int32), p6.2)))
set_option maxRecDepth 8000 in
theorem gLaw_k7_ok {L d : Nat} (hd : 13 ≤ d + 1) : ∀ (q : Int32 × mT) (x : (Int32 × mT) ⊕ (Int32 × mT)), gLaw_k7 L q = some x → ∀ o, sK (fun q => Ev (d + 1) 335 18 [(0, .ref XB), (1, .ref 0), (2, .ref 294), (3, .int q.1)] [] (uS L q.2) o) (fun r => o = (some (.int r.1), uS L r.2)) x → Ev (d + 1) 335 565 [(0, .ref XB), (1, .ref 0), (2, .ref 294), (3, .int q.1)] [] (uS L q.2) o := by
  intro q x h o ho
  unfold gLaw_k7 at h
  refine Ev.seg D_335 [(.aload_n 1, 1), (.aload_n 0, 1), (.iload_n 3, 1), (.iconst 1, 1), (.iadd, 1)] (by decide +kernel) (j := 0) (pc' := 570) (lv' := [(0, .ref XB), (1, .ref 0), (2, .ref 294), (3, .int q.1)]) (st' := [.int (q.1 + (1 : Int32)), .ref XB, .ref 0]) rfl ?_
  obtain ⟨x1, e1, h⟩ := bd h
  refine Ev.iald D_335 (by decide +kernel) (S_aIx (by rfl) (Nat.le_refl _) e1) ?_
  refine Ev.seg D_335 [(.aload_n 0, 1), (.iload_n 3, 1), (.iconst 2, 1), (.iadd, 1)] (by decide +kernel) (j := 0) (pc' := 575) (lv' := [(0, .ref XB), (1, .ref 0), (2, .ref 294), (3, .int q.1)]) (st' := [.int (q.1 + (2 : Int32)), .ref XB, .int x1, .ref 0]) rfl ?_
  obtain ⟨x2, e2, h⟩ := bd h
  refine Ev.iald D_335 (by decide +kernel) (S_aIx (by rfl) (Nat.le_refl _) e2) ?_
  obtain ⟨p3, e3, h⟩ := bd h
  refine Ev.callv D_335 E_100 (by decide +kernel) C_11_45 0 [.int x1, .int x2] (r := []) rfl (gd_o k_0 (by decide)) rfl (Nat.le_of_ble_eq_true rfl) (Nat.le_of_ble_eq_true rfl) (gL_place_ok (by omega)  e3) ?_
  refine Ev.seg D_335 [(.aload_n 2, 1), (.aload_n 0, 1), (.iload_n 3, 1), (.iconst 1, 1), (.iadd, 1)] (by decide +kernel) (j := 0) (pc' := 584) (lv' := [(0, .ref XB), (1, .ref 0), (2, .ref 294), (3, .int q.1)]) (st' := [.int (q.1 + (1 : Int32)), .ref XB, .ref 294, .int p3]) rfl ?_
  obtain ⟨x4, e4, h⟩ := bd h
  refine Ev.iald D_335 (by decide +kernel) (S_aIx (by rfl) (Nat.le_refl _) e4) ?_
  refine Ev.seg D_335 [(.aload_n 0, 1), (.iload_n 3, 1), (.iconst 2, 1), (.iadd, 1)] (by decide +kernel) (j := 0) (pc' := 589) (lv' := [(0, .ref XB), (1, .ref 0), (2, .ref 294), (3, .int q.1)]) (st' := [.int (q.1 + (2 : Int32)), .ref XB, .int x4, .ref 294, .int p3]) rfl ?_
  obtain ⟨x5, e5, h⟩ := bd h
  refine Ev.iald D_335 (by decide +kernel) (S_aIx (by rfl) (Nat.le_refl _) e5) ?_
  obtain ⟨p6, e6, h⟩ := bd h
  refine Ev.callv D_335 E_209 (by decide +kernel) C_11_48 294 [.int x4, .int x5] (r := [.int p3]) rfl (gd_o k_294 (by decide)) rfl (Nat.le_of_ble_eq_true rfl) (Nat.le_of_ble_eq_true rfl) (gM_place_ok (by omega)  e6) ?_
  refine Ev.icmp D_335 (c := .eq) (off := 1795) (by decide +kernel) (t := 2388) rfl (fun c7 => ?_) (fun c7 => ?_)
  · have c7 : p3 = p6.1 := of_decide_eq_true c7
    rw [if_pos c7] at h
    refine Ev.seg D_335 [(.iinc 3 6, 3), (.goto (-2373), 3)] (by decide +kernel) (j := 0) (pc' := 18) (lv' := [(3, .int (q.1 + (6 : Int32))), (0, .ref XB), (1, .ref 0), (2, .ref 294)]) (st' := []) rfl ?_
    cases h
    exact Ev.sub (lv' := [(0, .ref XB), (1, .ref 0), (2, .ref 294), (3, .int (q.1 + (6 : Int32)))]) (subL_cons rfl (subL_cons rfl (subL_cons rfl (subL_cons rfl subL_nil)))) ho
  · have c7 : ¬ p3 = p6.1 := of_decide_eq_false c7
    rw [if_neg c7] at h
    refine Ev.seg D_335 [(.iconst 0, 1)] (by decide +kernel) (j := 0) (pc' := 597) (lv' := [(0, .ref XB), (1, .ref 0), (2, .ref 294), (3, .int q.1)]) (st' := [.int (0 : Int32)]) rfl ?_
    cases h
    obtain rfl : o = _ := ho
    exact Ev.zret D_335 (by decide) (by decide +kernel)
def gLaw_k8 (L : Nat) (q : Int32 × mT) : Option ((Int32 × mT) ⊕ (Int32 × mT)) :=
  (rdI (q.2.1 XB) L (q.1 + (1 : Int32))).bind fun x1 =>
  (rdI (q.2.1 XB) L (q.1 + (2 : Int32))).bind fun x2 =>
  (gL_on x1 x2 q.2).bind fun p3 =>
  (rdI (q.2.1 XB) L (q.1 + (1 : Int32))).bind fun x4 =>
  (rdI (q.2.1 XB) L (q.1 + (2 : Int32))).bind fun x5 =>
  (gM_on x4 x5 q.2).bind fun p6 =>
  if p3 = p6.1 then
    some (.inl (q.1 + (6 : Int32), p6.2))
  else
    some (.inr (((0 : Int32), p6.2)))
set_option maxRecDepth 8000 in
theorem gLaw_k8_ok {L d : Nat} (hd : 13 ≤ d + 1) : ∀ (q : Int32 × mT) (x : (Int32 × mT) ⊕ (Int32 × mT)), gLaw_k8 L q = some x → ∀ o, sK (fun q => Ev (d + 1) 335 18 [(0, .ref XB), (1, .ref 0), (2, .ref 294), (3, .int q.1)] [] (uS L q.2) o) (fun r => o = (some (.int r.1), uS L r.2)) x → Ev (d + 1) 335 598 [(0, .ref XB), (1, .ref 0), (2, .ref 294), (3, .int q.1)] [] (uS L q.2) o := by
  intro q x h o ho
  unfold gLaw_k8 at h
  refine Ev.seg D_335 [(.aload_n 1, 1), (.aload_n 0, 1), (.iload_n 3, 1), (.iconst 1, 1), (.iadd, 1)] (by decide +kernel) (j := 0) (pc' := 603) (lv' := [(0, .ref XB), (1, .ref 0), (2, .ref 294), (3, .int q.1)]) (st' := [.int (q.1 + (1 : Int32)), .ref XB, .ref 0]) rfl ?_
  obtain ⟨x1, e1, h⟩ := bd h
  refine Ev.iald D_335 (by decide +kernel) (S_aIx (by rfl) (Nat.le_refl _) e1) ?_
  refine Ev.seg D_335 [(.aload_n 0, 1), (.iload_n 3, 1), (.iconst 2, 1), (.iadd, 1)] (by decide +kernel) (j := 0) (pc' := 608) (lv' := [(0, .ref XB), (1, .ref 0), (2, .ref 294), (3, .int q.1)]) (st' := [.int (q.1 + (2 : Int32)), .ref XB, .int x1, .ref 0]) rfl ?_
  obtain ⟨x2, e2, h⟩ := bd h
  refine Ev.iald D_335 (by decide +kernel) (S_aIx (by rfl) (Nat.le_refl _) e2) ?_
  obtain ⟨p3, e3, h⟩ := bd h
  refine Ev.callv D_335 E_101 (by decide +kernel) C_11_49 0 [.int x1, .int x2] (r := []) rfl (gd_o k_0 (by decide)) rfl (Nat.le_of_ble_eq_true rfl) (Nat.le_of_ble_eq_true rfl) (gL_on_ok (by omega)  e3) ?_
  refine Ev.seg D_335 [(.aload_n 2, 1), (.aload_n 0, 1), (.iload_n 3, 1), (.iconst 1, 1), (.iadd, 1)] (by decide +kernel) (j := 0) (pc' := 617) (lv' := [(0, .ref XB), (1, .ref 0), (2, .ref 294), (3, .int q.1)]) (st' := [.int (q.1 + (1 : Int32)), .ref XB, .ref 294, .int p3]) rfl ?_
  obtain ⟨x4, e4, h⟩ := bd h
  refine Ev.iald D_335 (by decide +kernel) (S_aIx (by rfl) (Nat.le_refl _) e4) ?_
  refine Ev.seg D_335 [(.aload_n 0, 1), (.iload_n 3, 1), (.iconst 2, 1), (.iadd, 1)] (by decide +kernel) (j := 0) (pc' := 622) (lv' := [(0, .ref XB), (1, .ref 0), (2, .ref 294), (3, .int q.1)]) (st' := [.int (q.1 + (2 : Int32)), .ref XB, .int x4, .ref 294, .int p3]) rfl ?_
  obtain ⟨x5, e5, h⟩ := bd h
  refine Ev.iald D_335 (by decide +kernel) (S_aIx (by rfl) (Nat.le_refl _) e5) ?_
  obtain ⟨p6, e6, h⟩ := bd h
  refine Ev.callv D_335 E_223 (by decide +kernel) C_11_52 294 [.int x4, .int x5] (r := [.int p3]) rfl (gd_o k_294 (by decide)) rfl (Nat.le_of_ble_eq_true rfl) (Nat.le_of_ble_eq_true rfl) (gM_on_ok (by omega)  e6) ?_
  refine Ev.icmp D_335 (c := .eq) (off := 1762) (by decide +kernel) (t := 2388) rfl (fun c7 => ?_) (fun c7 => ?_)
  · have c7 : p3 = p6.1 := of_decide_eq_true c7
    rw [if_pos c7] at h
    refine Ev.seg D_335 [(.iinc 3 6, 3), (.goto (-2373), 3)] (by decide +kernel) (j := 0) (pc' := 18) (lv' := [(3, .int (q.1 + (6 : Int32))), (0, .ref XB), (1, .ref 0), (2, .ref 294)]) (st' := []) rfl ?_
    cases h
    exact Ev.sub (lv' := [(0, .ref XB), (1, .ref 0), (2, .ref 294), (3, .int (q.1 + (6 : Int32)))]) (subL_cons rfl (subL_cons rfl (subL_cons rfl (subL_cons rfl subL_nil)))) ho
  · have c7 : ¬ p3 = p6.1 := of_decide_eq_false c7
    rw [if_neg c7] at h
    refine Ev.seg D_335 [(.iconst 0, 1)] (by decide +kernel) (j := 0) (pc' := 630) (lv' := [(0, .ref XB), (1, .ref 0), (2, .ref 294), (3, .int q.1)]) (st' := [.int (0 : Int32)]) rfl ?_
    cases h
    obtain rfl : o = _ := ho
    exact Ev.zret D_335 (by decide) (by decide +kernel)
def gLaw_k9 (L : Nat) (q : Int32 × mT) : Option ((Int32 × mT) ⊕ (Int32 × mT)) :=
  (rdI (q.2.1 XB) L (q.1 + (1 : Int32))).bind fun x1 =>
  (rdI (q.2.1 XB) L (q.1 + (2 : Int32))).bind fun x2 =>
  (gL_eyes x1 x2 q.2).bind fun p3 =>
  (rdI (q.2.1 XB) L (q.1 + (1 : Int32))).bind fun x4 =>
  (rdI (q.2.1 XB) L (q.1 + (2 : Int32))).bind fun x5 =>
  (gM_eyes x4 x5 q.2).bind fun p6 =>
  if p3 = p6.1 then
    some (.inl (q.1 + (6 : Int32), p6.2))
  else
    some (.inr (((0 : Int32), p6.2)))
set_option maxRecDepth 8000 in
theorem gLaw_k9_ok {L d : Nat} (hd : 13 ≤ d + 1) : ∀ (q : Int32 × mT) (x : (Int32 × mT) ⊕ (Int32 × mT)), gLaw_k9 L q = some x → ∀ o, sK (fun q => Ev (d + 1) 335 18 [(0, .ref XB), (1, .ref 0), (2, .ref 294), (3, .int q.1)] [] (uS L q.2) o) (fun r => o = (some (.int r.1), uS L r.2)) x → Ev (d + 1) 335 631 [(0, .ref XB), (1, .ref 0), (2, .ref 294), (3, .int q.1)] [] (uS L q.2) o := by
  intro q x h o ho
  unfold gLaw_k9 at h
  refine Ev.seg D_335 [(.aload_n 1, 1), (.aload_n 0, 1), (.iload_n 3, 1), (.iconst 1, 1), (.iadd, 1)] (by decide +kernel) (j := 0) (pc' := 636) (lv' := [(0, .ref XB), (1, .ref 0), (2, .ref 294), (3, .int q.1)]) (st' := [.int (q.1 + (1 : Int32)), .ref XB, .ref 0]) rfl ?_
  obtain ⟨x1, e1, h⟩ := bd h
  refine Ev.iald D_335 (by decide +kernel) (S_aIx (by rfl) (Nat.le_refl _) e1) ?_
  refine Ev.seg D_335 [(.aload_n 0, 1), (.iload_n 3, 1), (.iconst 2, 1), (.iadd, 1)] (by decide +kernel) (j := 0) (pc' := 641) (lv' := [(0, .ref XB), (1, .ref 0), (2, .ref 294), (3, .int q.1)]) (st' := [.int (q.1 + (2 : Int32)), .ref XB, .int x1, .ref 0]) rfl ?_
  obtain ⟨x2, e2, h⟩ := bd h
  refine Ev.iald D_335 (by decide +kernel) (S_aIx (by rfl) (Nat.le_refl _) e2) ?_
  obtain ⟨p3, e3, h⟩ := bd h
  refine Ev.callv D_335 E_102 (by decide +kernel) C_11_53 0 [.int x1, .int x2] (r := []) rfl (gd_o k_0 (by decide)) rfl (Nat.le_of_ble_eq_true rfl) (Nat.le_of_ble_eq_true rfl) (gL_eyes_ok (by omega)  e3) ?_
  refine Ev.seg D_335 [(.aload_n 2, 1), (.aload_n 0, 1), (.iload_n 3, 1), (.iconst 1, 1), (.iadd, 1)] (by decide +kernel) (j := 0) (pc' := 650) (lv' := [(0, .ref XB), (1, .ref 0), (2, .ref 294), (3, .int q.1)]) (st' := [.int (q.1 + (1 : Int32)), .ref XB, .ref 294, .int p3]) rfl ?_
  obtain ⟨x4, e4, h⟩ := bd h
  refine Ev.iald D_335 (by decide +kernel) (S_aIx (by rfl) (Nat.le_refl _) e4) ?_
  refine Ev.seg D_335 [(.aload_n 0, 1), (.iload_n 3, 1), (.iconst 2, 1), (.iadd, 1)] (by decide +kernel) (j := 0) (pc' := 655) (lv' := [(0, .ref XB), (1, .ref 0), (2, .ref 294), (3, .int q.1)]) (st' := [.int (q.1 + (2 : Int32)), .ref XB, .int x4, .ref 294, .int p3]) rfl ?_
  obtain ⟨x5, e5, h⟩ := bd h
  refine Ev.iald D_335 (by decide +kernel) (S_aIx (by rfl) (Nat.le_refl _) e5) ?_
  obtain ⟨p6, e6, h⟩ := bd h
  refine Ev.callv D_335 E_224 (by decide +kernel) C_11_56 294 [.int x4, .int x5] (r := [.int p3]) rfl (gd_o k_294 (by decide)) rfl (Nat.le_of_ble_eq_true rfl) (Nat.le_of_ble_eq_true rfl) (gM_eyes_ok (by omega)  e6) ?_
  refine Ev.icmp D_335 (c := .eq) (off := 1729) (by decide +kernel) (t := 2388) rfl (fun c7 => ?_) (fun c7 => ?_)
  · have c7 : p3 = p6.1 := of_decide_eq_true c7
    rw [if_pos c7] at h
    refine Ev.seg D_335 [(.iinc 3 6, 3), (.goto (-2373), 3)] (by decide +kernel) (j := 0) (pc' := 18) (lv' := [(3, .int (q.1 + (6 : Int32))), (0, .ref XB), (1, .ref 0), (2, .ref 294)]) (st' := []) rfl ?_
    cases h
    exact Ev.sub (lv' := [(0, .ref XB), (1, .ref 0), (2, .ref 294), (3, .int (q.1 + (6 : Int32)))]) (subL_cons rfl (subL_cons rfl (subL_cons rfl (subL_cons rfl subL_nil)))) ho
  · have c7 : ¬ p3 = p6.1 := of_decide_eq_false c7
    rw [if_neg c7] at h
    refine Ev.seg D_335 [(.iconst 0, 1)] (by decide +kernel) (j := 0) (pc' := 663) (lv' := [(0, .ref XB), (1, .ref 0), (2, .ref 294), (3, .int q.1)]) (st' := [.int (0 : Int32)]) rfl ?_
    cases h
    obtain rfl : o = _ := ho
    exact Ev.zret D_335 (by decide) (by decide +kernel)
def gLaw_k10 (L : Nat) (q : Int32 × mT) : Option ((Int32 × mT) ⊕ (Int32 × mT)) :=
  (rdI (q.2.1 XB) L (q.1 + (1 : Int32))).bind fun x1 =>
  (gL_awake x1 q.2).bind fun p2 =>
  (rdI (q.2.1 XB) L (q.1 + (1 : Int32))).bind fun x3 =>
  (gM_awake x3 q.2).bind fun p4 =>
  if p2 = p4.1 then
    some (.inl (q.1 + (6 : Int32), p4.2))
  else
    some (.inr (((0 : Int32), p4.2)))
set_option maxRecDepth 8000 in
theorem gLaw_k10_ok {L d : Nat} (hd : 13 ≤ d + 1) : ∀ (q : Int32 × mT) (x : (Int32 × mT) ⊕ (Int32 × mT)), gLaw_k10 L q = some x → ∀ o, sK (fun q => Ev (d + 1) 335 18 [(0, .ref XB), (1, .ref 0), (2, .ref 294), (3, .int q.1)] [] (uS L q.2) o) (fun r => o = (some (.int r.1), uS L r.2)) x → Ev (d + 1) 335 664 [(0, .ref XB), (1, .ref 0), (2, .ref 294), (3, .int q.1)] [] (uS L q.2) o := by
  intro q x h o ho
  unfold gLaw_k10 at h
  refine Ev.seg D_335 [(.aload_n 1, 1), (.aload_n 0, 1), (.iload_n 3, 1), (.iconst 1, 1), (.iadd, 1)] (by decide +kernel) (j := 0) (pc' := 669) (lv' := [(0, .ref XB), (1, .ref 0), (2, .ref 294), (3, .int q.1)]) (st' := [.int (q.1 + (1 : Int32)), .ref XB, .ref 0]) rfl ?_
  obtain ⟨x1, e1, h⟩ := bd h
  refine Ev.iald D_335 (by decide +kernel) (S_aIx (by rfl) (Nat.le_refl _) e1) ?_
  obtain ⟨p2, e2, h⟩ := bd h
  refine Ev.callv D_335 E_103 (by decide +kernel) C_11_57 0 [.int x1] (r := []) rfl (gd_o k_0 (by decide)) rfl (Nat.le_of_ble_eq_true rfl) (Nat.le_of_ble_eq_true rfl) (gL_awake_ok (by omega)  e2) ?_
  refine Ev.seg D_335 [(.aload_n 2, 1), (.aload_n 0, 1), (.iload_n 3, 1), (.iconst 1, 1), (.iadd, 1)] (by decide +kernel) (j := 0) (pc' := 678) (lv' := [(0, .ref XB), (1, .ref 0), (2, .ref 294), (3, .int q.1)]) (st' := [.int (q.1 + (1 : Int32)), .ref XB, .ref 294, .int p2]) rfl ?_
  obtain ⟨x3, e3, h⟩ := bd h
  refine Ev.iald D_335 (by decide +kernel) (S_aIx (by rfl) (Nat.le_refl _) e3) ?_
  obtain ⟨p4, e4, h⟩ := bd h
  refine Ev.callv D_335 E_227 (by decide +kernel) C_11_60 294 [.int x3] (r := [.int p2]) rfl (gd_o k_294 (by decide)) rfl (Nat.le_of_ble_eq_true rfl) (Nat.le_of_ble_eq_true rfl) (gM_awake_ok (by omega)  e4) ?_
  refine Ev.icmp D_335 (c := .eq) (off := 1706) (by decide +kernel) (t := 2388) rfl (fun c5 => ?_) (fun c5 => ?_)
  · have c5 : p2 = p4.1 := of_decide_eq_true c5
    rw [if_pos c5] at h
    refine Ev.seg D_335 [(.iinc 3 6, 3), (.goto (-2373), 3)] (by decide +kernel) (j := 0) (pc' := 18) (lv' := [(3, .int (q.1 + (6 : Int32))), (0, .ref XB), (1, .ref 0), (2, .ref 294)]) (st' := []) rfl ?_
    cases h
    exact Ev.sub (lv' := [(0, .ref XB), (1, .ref 0), (2, .ref 294), (3, .int (q.1 + (6 : Int32)))]) (subL_cons rfl (subL_cons rfl (subL_cons rfl (subL_cons rfl subL_nil)))) ho
  · have c5 : ¬ p2 = p4.1 := of_decide_eq_false c5
    rw [if_neg c5] at h
    refine Ev.seg D_335 [(.iconst 0, 1)] (by decide +kernel) (j := 0) (pc' := 686) (lv' := [(0, .ref XB), (1, .ref 0), (2, .ref 294), (3, .int q.1)]) (st' := [.int (0 : Int32)]) rfl ?_
    cases h
    obtain rfl : o = _ := ho
    exact Ev.zret D_335 (by decide) (by decide +kernel)
def gLaw_k11 (L : Nat) (q : Int32 × mT) : Option ((Int32 × mT) ⊕ (Int32 × mT)) :=
  (rdI (q.2.1 XB) L (q.1 + (1 : Int32))).bind fun x1 =>
  (rdI (q.2.1 XB) L (q.1 + (2 : Int32))).bind fun x2 =>
  (gL_lookers x1 x2 q.2).bind fun p3 =>
  (rdI (q.2.1 XB) L (q.1 + (1 : Int32))).bind fun x4 =>
  (rdI (q.2.1 XB) L (q.1 + (2 : Int32))).bind fun x5 =>
  (gM_lookers x4 x5 q.2).bind fun p6 =>
  if p3 = p6.1 then
    some (.inl (q.1 + (6 : Int32), p6.2))
  else
    some (.inr (((0 : Int32), p6.2)))
set_option maxRecDepth 8000 in
theorem gLaw_k11_ok {L d : Nat} (hd : 13 ≤ d + 1) : ∀ (q : Int32 × mT) (x : (Int32 × mT) ⊕ (Int32 × mT)), gLaw_k11 L q = some x → ∀ o, sK (fun q => Ev (d + 1) 335 18 [(0, .ref XB), (1, .ref 0), (2, .ref 294), (3, .int q.1)] [] (uS L q.2) o) (fun r => o = (some (.int r.1), uS L r.2)) x → Ev (d + 1) 335 687 [(0, .ref XB), (1, .ref 0), (2, .ref 294), (3, .int q.1)] [] (uS L q.2) o := by
  intro q x h o ho
  unfold gLaw_k11 at h
  refine Ev.seg D_335 [(.aload_n 1, 1), (.aload_n 0, 1), (.iload_n 3, 1), (.iconst 1, 1), (.iadd, 1)] (by decide +kernel) (j := 0) (pc' := 692) (lv' := [(0, .ref XB), (1, .ref 0), (2, .ref 294), (3, .int q.1)]) (st' := [.int (q.1 + (1 : Int32)), .ref XB, .ref 0]) rfl ?_
  obtain ⟨x1, e1, h⟩ := bd h
  refine Ev.iald D_335 (by decide +kernel) (S_aIx (by rfl) (Nat.le_refl _) e1) ?_
  refine Ev.seg D_335 [(.aload_n 0, 1), (.iload_n 3, 1), (.iconst 2, 1), (.iadd, 1)] (by decide +kernel) (j := 0) (pc' := 697) (lv' := [(0, .ref XB), (1, .ref 0), (2, .ref 294), (3, .int q.1)]) (st' := [.int (q.1 + (2 : Int32)), .ref XB, .int x1, .ref 0]) rfl ?_
  obtain ⟨x2, e2, h⟩ := bd h
  refine Ev.iald D_335 (by decide +kernel) (S_aIx (by rfl) (Nat.le_refl _) e2) ?_
  obtain ⟨p3, e3, h⟩ := bd h
  refine Ev.callv D_335 E_104 (by decide +kernel) C_11_61 0 [.int x1, .int x2] (r := []) rfl (gd_o k_0 (by decide)) rfl (Nat.le_of_ble_eq_true rfl) (Nat.le_of_ble_eq_true rfl) (gL_lookers_ok (by omega)  e3) ?_
  refine Ev.seg D_335 [(.aload_n 2, 1), (.aload_n 0, 1), (.iload_n 3, 1), (.iconst 1, 1), (.iadd, 1)] (by decide +kernel) (j := 0) (pc' := 706) (lv' := [(0, .ref XB), (1, .ref 0), (2, .ref 294), (3, .int q.1)]) (st' := [.int (q.1 + (1 : Int32)), .ref XB, .ref 294, .int p3]) rfl ?_
  obtain ⟨x4, e4, h⟩ := bd h
  refine Ev.iald D_335 (by decide +kernel) (S_aIx (by rfl) (Nat.le_refl _) e4) ?_
  refine Ev.seg D_335 [(.aload_n 0, 1), (.iload_n 3, 1), (.iconst 2, 1), (.iadd, 1)] (by decide +kernel) (j := 0) (pc' := 711) (lv' := [(0, .ref XB), (1, .ref 0), (2, .ref 294), (3, .int q.1)]) (st' := [.int (q.1 + (2 : Int32)), .ref XB, .int x4, .ref 294, .int p3]) rfl ?_
  obtain ⟨x5, e5, h⟩ := bd h
  refine Ev.iald D_335 (by decide +kernel) (S_aIx (by rfl) (Nat.le_refl _) e5) ?_
  obtain ⟨p6, e6, h⟩ := bd h
  refine Ev.callv D_335 E_228 (by decide +kernel) C_11_64 294 [.int x4, .int x5] (r := [.int p3]) rfl (gd_o k_294 (by decide)) rfl (Nat.le_of_ble_eq_true rfl) (Nat.le_of_ble_eq_true rfl) (gM_lookers_ok (by omega)  e6) ?_
  refine Ev.icmp D_335 (c := .eq) (off := 1673) (by decide +kernel) (t := 2388) rfl (fun c7 => ?_) (fun c7 => ?_)
  · have c7 : p3 = p6.1 := of_decide_eq_true c7
    rw [if_pos c7] at h
    refine Ev.seg D_335 [(.iinc 3 6, 3), (.goto (-2373), 3)] (by decide +kernel) (j := 0) (pc' := 18) (lv' := [(3, .int (q.1 + (6 : Int32))), (0, .ref XB), (1, .ref 0), (2, .ref 294)]) (st' := []) rfl ?_
    cases h
    exact Ev.sub (lv' := [(0, .ref XB), (1, .ref 0), (2, .ref 294), (3, .int (q.1 + (6 : Int32)))]) (subL_cons rfl (subL_cons rfl (subL_cons rfl (subL_cons rfl subL_nil)))) ho
  · have c7 : ¬ p3 = p6.1 := of_decide_eq_false c7
    rw [if_neg c7] at h
    refine Ev.seg D_335 [(.iconst 0, 1)] (by decide +kernel) (j := 0) (pc' := 719) (lv' := [(0, .ref XB), (1, .ref 0), (2, .ref 294), (3, .int q.1)]) (st' := [.int (0 : Int32)]) rfl ?_
    cases h
    obtain rfl : o = _ := ho
    exact Ev.zret D_335 (by decide) (by decide +kernel)
def gLaw_k12 (L : Nat) (q : Int32 × mT) : Option ((Int32 × mT) ⊕ (Int32 × mT)) :=
  (rdI (q.2.1 XB) L (q.1 + (1 : Int32))).bind fun x1 =>
  (gL_leads x1 q.2).bind fun p2 =>
  (rdI (q.2.1 XB) L (q.1 + (1 : Int32))).bind fun x3 =>
  (gM_leads x3 q.2).bind fun p4 =>
  if p2 = p4.1 then
    some (.inl (q.1 + (6 : Int32), p4.2))
  else
    some (.inr (((0 : Int32), p4.2)))
set_option maxRecDepth 8000 in
theorem gLaw_k12_ok {L d : Nat} (hd : 13 ≤ d + 1) : ∀ (q : Int32 × mT) (x : (Int32 × mT) ⊕ (Int32 × mT)), gLaw_k12 L q = some x → ∀ o, sK (fun q => Ev (d + 1) 335 18 [(0, .ref XB), (1, .ref 0), (2, .ref 294), (3, .int q.1)] [] (uS L q.2) o) (fun r => o = (some (.int r.1), uS L r.2)) x → Ev (d + 1) 335 720 [(0, .ref XB), (1, .ref 0), (2, .ref 294), (3, .int q.1)] [] (uS L q.2) o := by
  intro q x h o ho
  unfold gLaw_k12 at h
  refine Ev.seg D_335 [(.aload_n 1, 1), (.aload_n 0, 1), (.iload_n 3, 1), (.iconst 1, 1), (.iadd, 1)] (by decide +kernel) (j := 0) (pc' := 725) (lv' := [(0, .ref XB), (1, .ref 0), (2, .ref 294), (3, .int q.1)]) (st' := [.int (q.1 + (1 : Int32)), .ref XB, .ref 0]) rfl ?_
  obtain ⟨x1, e1, h⟩ := bd h
  refine Ev.iald D_335 (by decide +kernel) (S_aIx (by rfl) (Nat.le_refl _) e1) ?_
  obtain ⟨p2, e2, h⟩ := bd h
  refine Ev.callv D_335 E_105 (by decide +kernel) C_11_65 0 [.int x1] (r := []) rfl (gd_o k_0 (by decide)) rfl (Nat.le_of_ble_eq_true rfl) (Nat.le_of_ble_eq_true rfl) (gL_leads_ok (by omega)  e2) ?_
  refine Ev.seg D_335 [(.aload_n 2, 1), (.aload_n 0, 1), (.iload_n 3, 1), (.iconst 1, 1), (.iadd, 1)] (by decide +kernel) (j := 0) (pc' := 734) (lv' := [(0, .ref XB), (1, .ref 0), (2, .ref 294), (3, .int q.1)]) (st' := [.int (q.1 + (1 : Int32)), .ref XB, .ref 294, .int p2]) rfl ?_
  obtain ⟨x3, e3, h⟩ := bd h
  refine Ev.iald D_335 (by decide +kernel) (S_aIx (by rfl) (Nat.le_refl _) e3) ?_
  obtain ⟨p4, e4, h⟩ := bd h
  refine Ev.callv D_335 E_230 (by decide +kernel) C_11_68 294 [.int x3] (r := [.int p2]) rfl (gd_o k_294 (by decide)) rfl (Nat.le_of_ble_eq_true rfl) (Nat.le_of_ble_eq_true rfl) (gM_leads_ok (by omega)  e4) ?_
  refine Ev.icmp D_335 (c := .eq) (off := 1650) (by decide +kernel) (t := 2388) rfl (fun c5 => ?_) (fun c5 => ?_)
  · have c5 : p2 = p4.1 := of_decide_eq_true c5
    rw [if_pos c5] at h
    refine Ev.seg D_335 [(.iinc 3 6, 3), (.goto (-2373), 3)] (by decide +kernel) (j := 0) (pc' := 18) (lv' := [(3, .int (q.1 + (6 : Int32))), (0, .ref XB), (1, .ref 0), (2, .ref 294)]) (st' := []) rfl ?_
    cases h
    exact Ev.sub (lv' := [(0, .ref XB), (1, .ref 0), (2, .ref 294), (3, .int (q.1 + (6 : Int32)))]) (subL_cons rfl (subL_cons rfl (subL_cons rfl (subL_cons rfl subL_nil)))) ho
  · have c5 : ¬ p2 = p4.1 := of_decide_eq_false c5
    rw [if_neg c5] at h
    refine Ev.seg D_335 [(.iconst 0, 1)] (by decide +kernel) (j := 0) (pc' := 742) (lv' := [(0, .ref XB), (1, .ref 0), (2, .ref 294), (3, .int q.1)]) (st' := [.int (0 : Int32)]) rfl ?_
    cases h
    obtain rfl : o = _ := ho
    exact Ev.zret D_335 (by decide) (by decide +kernel)
def gLaw_k13 (L : Nat) (q : Int32 × mT) : Option ((Int32 × mT) ⊕ (Int32 × mT)) :=
  (rdI (q.2.1 XB) L (q.1 + (1 : Int32))).bind fun x1 =>
  (gL_lags x1 q.2).bind fun p2 =>
  (rdI (q.2.1 XB) L (q.1 + (1 : Int32))).bind fun x3 =>
  (gM_lags x3 q.2).bind fun p4 =>
  if p2 = p4.1 then
    some (.inl (q.1 + (6 : Int32), p4.2))
  else
    some (.inr (((0 : Int32), p4.2)))
set_option maxRecDepth 8000 in
theorem gLaw_k13_ok {L d : Nat} (hd : 13 ≤ d + 1) : ∀ (q : Int32 × mT) (x : (Int32 × mT) ⊕ (Int32 × mT)), gLaw_k13 L q = some x → ∀ o, sK (fun q => Ev (d + 1) 335 18 [(0, .ref XB), (1, .ref 0), (2, .ref 294), (3, .int q.1)] [] (uS L q.2) o) (fun r => o = (some (.int r.1), uS L r.2)) x → Ev (d + 1) 335 743 [(0, .ref XB), (1, .ref 0), (2, .ref 294), (3, .int q.1)] [] (uS L q.2) o := by
  intro q x h o ho
  unfold gLaw_k13 at h
  refine Ev.seg D_335 [(.aload_n 1, 1), (.aload_n 0, 1), (.iload_n 3, 1), (.iconst 1, 1), (.iadd, 1)] (by decide +kernel) (j := 0) (pc' := 748) (lv' := [(0, .ref XB), (1, .ref 0), (2, .ref 294), (3, .int q.1)]) (st' := [.int (q.1 + (1 : Int32)), .ref XB, .ref 0]) rfl ?_
  obtain ⟨x1, e1, h⟩ := bd h
  refine Ev.iald D_335 (by decide +kernel) (S_aIx (by rfl) (Nat.le_refl _) e1) ?_
  obtain ⟨p2, e2, h⟩ := bd h
  refine Ev.callv D_335 E_106 (by decide +kernel) C_11_69 0 [.int x1] (r := []) rfl (gd_o k_0 (by decide)) rfl (Nat.le_of_ble_eq_true rfl) (Nat.le_of_ble_eq_true rfl) (gL_lags_ok (by omega)  e2) ?_
  refine Ev.seg D_335 [(.aload_n 2, 1), (.aload_n 0, 1), (.iload_n 3, 1), (.iconst 1, 1), (.iadd, 1)] (by decide +kernel) (j := 0) (pc' := 757) (lv' := [(0, .ref XB), (1, .ref 0), (2, .ref 294), (3, .int q.1)]) (st' := [.int (q.1 + (1 : Int32)), .ref XB, .ref 294, .int p2]) rfl ?_
  obtain ⟨x3, e3, h⟩ := bd h
  refine Ev.iald D_335 (by decide +kernel) (S_aIx (by rfl) (Nat.le_refl _) e3) ?_
  obtain ⟨p4, e4, h⟩ := bd h
  refine Ev.callv D_335 E_232 (by decide +kernel) C_11_72 294 [.int x3] (r := [.int p2]) rfl (gd_o k_294 (by decide)) rfl (Nat.le_of_ble_eq_true rfl) (Nat.le_of_ble_eq_true rfl) (gM_lags_ok (by omega)  e4) ?_
  refine Ev.icmp D_335 (c := .eq) (off := 1627) (by decide +kernel) (t := 2388) rfl (fun c5 => ?_) (fun c5 => ?_)
  · have c5 : p2 = p4.1 := of_decide_eq_true c5
    rw [if_pos c5] at h
    refine Ev.seg D_335 [(.iinc 3 6, 3), (.goto (-2373), 3)] (by decide +kernel) (j := 0) (pc' := 18) (lv' := [(3, .int (q.1 + (6 : Int32))), (0, .ref XB), (1, .ref 0), (2, .ref 294)]) (st' := []) rfl ?_
    cases h
    exact Ev.sub (lv' := [(0, .ref XB), (1, .ref 0), (2, .ref 294), (3, .int (q.1 + (6 : Int32)))]) (subL_cons rfl (subL_cons rfl (subL_cons rfl (subL_cons rfl subL_nil)))) ho
  · have c5 : ¬ p2 = p4.1 := of_decide_eq_false c5
    rw [if_neg c5] at h
    refine Ev.seg D_335 [(.iconst 0, 1)] (by decide +kernel) (j := 0) (pc' := 765) (lv' := [(0, .ref XB), (1, .ref 0), (2, .ref 294), (3, .int q.1)]) (st' := [.int (0 : Int32)]) rfl ?_
    cases h
    obtain rfl : o = _ := ho
    exact Ev.zret D_335 (by decide) (by decide +kernel)
def gLaw_k14 (L : Nat) (q : Int32 × mT) : Option ((Int32 × mT) ⊕ (Int32 × mT)) :=
  (rdI (q.2.1 XB) L (q.1 + (1 : Int32))).bind fun x1 =>
  (gL_front x1 q.2).bind fun p2 =>
  (rdI (q.2.1 XB) L (q.1 + (1 : Int32))).bind fun x3 =>
  (gM_front x3 q.2).bind fun p4 =>
  if p2 = p4.1 then
    some (.inl (q.1 + (6 : Int32), p4.2))
  else
    some (.inr (((0 : Int32), p4.2)))
set_option maxRecDepth 8000 in
theorem gLaw_k14_ok {L d : Nat} (hd : 13 ≤ d + 1) : ∀ (q : Int32 × mT) (x : (Int32 × mT) ⊕ (Int32 × mT)), gLaw_k14 L q = some x → ∀ o, sK (fun q => Ev (d + 1) 335 18 [(0, .ref XB), (1, .ref 0), (2, .ref 294), (3, .int q.1)] [] (uS L q.2) o) (fun r => o = (some (.int r.1), uS L r.2)) x → Ev (d + 1) 335 766 [(0, .ref XB), (1, .ref 0), (2, .ref 294), (3, .int q.1)] [] (uS L q.2) o := by
  intro q x h o ho
  unfold gLaw_k14 at h
  refine Ev.seg D_335 [(.aload_n 1, 1), (.aload_n 0, 1), (.iload_n 3, 1), (.iconst 1, 1), (.iadd, 1)] (by decide +kernel) (j := 0) (pc' := 771) (lv' := [(0, .ref XB), (1, .ref 0), (2, .ref 294), (3, .int q.1)]) (st' := [.int (q.1 + (1 : Int32)), .ref XB, .ref 0]) rfl ?_
  obtain ⟨x1, e1, h⟩ := bd h
  refine Ev.iald D_335 (by decide +kernel) (S_aIx (by rfl) (Nat.le_refl _) e1) ?_
  obtain ⟨p2, e2, h⟩ := bd h
  refine Ev.callv D_335 E_107 (by decide +kernel) C_11_73 0 [.int x1] (r := []) rfl (gd_o k_0 (by decide)) rfl (Nat.le_of_ble_eq_true rfl) (Nat.le_of_ble_eq_true rfl) (gL_front_ok (by omega)  e2) ?_
  refine Ev.seg D_335 [(.aload_n 2, 1), (.aload_n 0, 1), (.iload_n 3, 1), (.iconst 1, 1), (.iadd, 1)] (by decide +kernel) (j := 0) (pc' := 780) (lv' := [(0, .ref XB), (1, .ref 0), (2, .ref 294), (3, .int q.1)]) (st' := [.int (q.1 + (1 : Int32)), .ref XB, .ref 294, .int p2]) rfl ?_
  obtain ⟨x3, e3, h⟩ := bd h
  refine Ev.iald D_335 (by decide +kernel) (S_aIx (by rfl) (Nat.le_refl _) e3) ?_
  obtain ⟨p4, e4, h⟩ := bd h
  refine Ev.callv D_335 E_233 (by decide +kernel) C_11_76 294 [.int x3] (r := [.int p2]) rfl (gd_o k_294 (by decide)) rfl (Nat.le_of_ble_eq_true rfl) (Nat.le_of_ble_eq_true rfl) (gM_front_ok (by omega)  e4) ?_
  refine Ev.icmp D_335 (c := .eq) (off := 1604) (by decide +kernel) (t := 2388) rfl (fun c5 => ?_) (fun c5 => ?_)
  · have c5 : p2 = p4.1 := of_decide_eq_true c5
    rw [if_pos c5] at h
    refine Ev.seg D_335 [(.iinc 3 6, 3), (.goto (-2373), 3)] (by decide +kernel) (j := 0) (pc' := 18) (lv' := [(3, .int (q.1 + (6 : Int32))), (0, .ref XB), (1, .ref 0), (2, .ref 294)]) (st' := []) rfl ?_
    cases h
    exact Ev.sub (lv' := [(0, .ref XB), (1, .ref 0), (2, .ref 294), (3, .int (q.1 + (6 : Int32)))]) (subL_cons rfl (subL_cons rfl (subL_cons rfl (subL_cons rfl subL_nil)))) ho
  · have c5 : ¬ p2 = p4.1 := of_decide_eq_false c5
    rw [if_neg c5] at h
    refine Ev.seg D_335 [(.iconst 0, 1)] (by decide +kernel) (j := 0) (pc' := 788) (lv' := [(0, .ref XB), (1, .ref 0), (2, .ref 294), (3, .int q.1)]) (st' := [.int (0 : Int32)]) rfl ?_
    cases h
    obtain rfl : o = _ := ho
    exact Ev.zret D_335 (by decide) (by decide +kernel)
def gLaw_k15 (L : Nat) (q : Int32 × mT) : Option ((Int32 × mT) ⊕ (Int32 × mT)) :=
  (rdI (q.2.1 XB) L (q.1 + (1 : Int32))).bind fun x1 =>
  (rdI (q.2.1 XB) L (q.1 + (2 : Int32))).bind fun x2 =>
  (gL_behind x1 x2 q.2).bind fun p3 =>
  (rdI (q.2.1 XB) L (q.1 + (1 : Int32))).bind fun x4 =>
  (rdI (q.2.1 XB) L (q.1 + (2 : Int32))).bind fun x5 =>
  (gM_behind x4 x5 q.2).bind fun p6 =>
  if p3 = p6.1 then
    some (.inl (q.1 + (6 : Int32), p6.2))
  else
    some (.inr (((0 : Int32), p6.2)))
set_option maxRecDepth 8000 in
theorem gLaw_k15_ok {L d : Nat} (hd : 13 ≤ d + 1) : ∀ (q : Int32 × mT) (x : (Int32 × mT) ⊕ (Int32 × mT)), gLaw_k15 L q = some x → ∀ o, sK (fun q => Ev (d + 1) 335 18 [(0, .ref XB), (1, .ref 0), (2, .ref 294), (3, .int q.1)] [] (uS L q.2) o) (fun r => o = (some (.int r.1), uS L r.2)) x → Ev (d + 1) 335 789 [(0, .ref XB), (1, .ref 0), (2, .ref 294), (3, .int q.1)] [] (uS L q.2) o := by
  intro q x h o ho
  unfold gLaw_k15 at h
  refine Ev.seg D_335 [(.aload_n 1, 1), (.aload_n 0, 1), (.iload_n 3, 1), (.iconst 1, 1), (.iadd, 1)] (by decide +kernel) (j := 0) (pc' := 794) (lv' := [(0, .ref XB), (1, .ref 0), (2, .ref 294), (3, .int q.1)]) (st' := [.int (q.1 + (1 : Int32)), .ref XB, .ref 0]) rfl ?_
  obtain ⟨x1, e1, h⟩ := bd h
  refine Ev.iald D_335 (by decide +kernel) (S_aIx (by rfl) (Nat.le_refl _) e1) ?_
  refine Ev.seg D_335 [(.aload_n 0, 1), (.iload_n 3, 1), (.iconst 2, 1), (.iadd, 1)] (by decide +kernel) (j := 0) (pc' := 799) (lv' := [(0, .ref XB), (1, .ref 0), (2, .ref 294), (3, .int q.1)]) (st' := [.int (q.1 + (2 : Int32)), .ref XB, .int x1, .ref 0]) rfl ?_
  obtain ⟨x2, e2, h⟩ := bd h
  refine Ev.iald D_335 (by decide +kernel) (S_aIx (by rfl) (Nat.le_refl _) e2) ?_
  obtain ⟨p3, e3, h⟩ := bd h
  refine Ev.callv D_335 E_108 (by decide +kernel) C_11_77 0 [.int x1, .int x2] (r := []) rfl (gd_o k_0 (by decide)) rfl (Nat.le_of_ble_eq_true rfl) (Nat.le_of_ble_eq_true rfl) (gL_behind_ok (by omega)  e3) ?_
  refine Ev.seg D_335 [(.aload_n 2, 1), (.aload_n 0, 1), (.iload_n 3, 1), (.iconst 1, 1), (.iadd, 1)] (by decide +kernel) (j := 0) (pc' := 808) (lv' := [(0, .ref XB), (1, .ref 0), (2, .ref 294), (3, .int q.1)]) (st' := [.int (q.1 + (1 : Int32)), .ref XB, .ref 294, .int p3]) rfl ?_
  obtain ⟨x4, e4, h⟩ := bd h
  refine Ev.iald D_335 (by decide +kernel) (S_aIx (by rfl) (Nat.le_refl _) e4) ?_
  refine Ev.seg D_335 [(.aload_n 0, 1), (.iload_n 3, 1), (.iconst 2, 1), (.iadd, 1)] (by decide +kernel) (j := 0) (pc' := 813) (lv' := [(0, .ref XB), (1, .ref 0), (2, .ref 294), (3, .int q.1)]) (st' := [.int (q.1 + (2 : Int32)), .ref XB, .int x4, .ref 294, .int p3]) rfl ?_
  obtain ⟨x5, e5, h⟩ := bd h
  refine Ev.iald D_335 (by decide +kernel) (S_aIx (by rfl) (Nat.le_refl _) e5) ?_
  obtain ⟨p6, e6, h⟩ := bd h
  refine Ev.callv D_335 E_235 (by decide +kernel) C_11_80 294 [.int x4, .int x5] (r := [.int p3]) rfl (gd_o k_294 (by decide)) rfl (Nat.le_of_ble_eq_true rfl) (Nat.le_of_ble_eq_true rfl) (gM_behind_ok (by omega)  e6) ?_
  refine Ev.icmp D_335 (c := .eq) (off := 1571) (by decide +kernel) (t := 2388) rfl (fun c7 => ?_) (fun c7 => ?_)
  · have c7 : p3 = p6.1 := of_decide_eq_true c7
    rw [if_pos c7] at h
    refine Ev.seg D_335 [(.iinc 3 6, 3), (.goto (-2373), 3)] (by decide +kernel) (j := 0) (pc' := 18) (lv' := [(3, .int (q.1 + (6 : Int32))), (0, .ref XB), (1, .ref 0), (2, .ref 294)]) (st' := []) rfl ?_
    cases h
    exact Ev.sub (lv' := [(0, .ref XB), (1, .ref 0), (2, .ref 294), (3, .int (q.1 + (6 : Int32)))]) (subL_cons rfl (subL_cons rfl (subL_cons rfl (subL_cons rfl subL_nil)))) ho
  · have c7 : ¬ p3 = p6.1 := of_decide_eq_false c7
    rw [if_neg c7] at h
    refine Ev.seg D_335 [(.iconst 0, 1)] (by decide +kernel) (j := 0) (pc' := 821) (lv' := [(0, .ref XB), (1, .ref 0), (2, .ref 294), (3, .int q.1)]) (st' := [.int (0 : Int32)]) rfl ?_
    cases h
    obtain rfl : o = _ := ho
    exact Ev.zret D_335 (by decide) (by decide +kernel)
def gLaw_k16 (L : Nat) (q : Int32 × mT) : Option ((Int32 × mT) ⊕ (Int32 × mT)) :=
  (rdI (q.2.1 XB) L (q.1 + (1 : Int32))).bind fun x1 =>
  (gL_calm x1 q.2).bind fun p2 =>
  (rdI (q.2.1 XB) L (q.1 + (1 : Int32))).bind fun x3 =>
  (gM_calm x3 q.2).bind fun p4 =>
  if p2 = p4.1 then
    some (.inl (q.1 + (6 : Int32), p4.2))
  else
    some (.inr (((0 : Int32), p4.2)))
set_option maxRecDepth 8000 in
theorem gLaw_k16_ok {L d : Nat} (hd : 13 ≤ d + 1) : ∀ (q : Int32 × mT) (x : (Int32 × mT) ⊕ (Int32 × mT)), gLaw_k16 L q = some x → ∀ o, sK (fun q => Ev (d + 1) 335 18 [(0, .ref XB), (1, .ref 0), (2, .ref 294), (3, .int q.1)] [] (uS L q.2) o) (fun r => o = (some (.int r.1), uS L r.2)) x → Ev (d + 1) 335 822 [(0, .ref XB), (1, .ref 0), (2, .ref 294), (3, .int q.1)] [] (uS L q.2) o := by
  intro q x h o ho
  unfold gLaw_k16 at h
  refine Ev.seg D_335 [(.aload_n 1, 1), (.aload_n 0, 1), (.iload_n 3, 1), (.iconst 1, 1), (.iadd, 1)] (by decide +kernel) (j := 0) (pc' := 827) (lv' := [(0, .ref XB), (1, .ref 0), (2, .ref 294), (3, .int q.1)]) (st' := [.int (q.1 + (1 : Int32)), .ref XB, .ref 0]) rfl ?_
  obtain ⟨x1, e1, h⟩ := bd h
  refine Ev.iald D_335 (by decide +kernel) (S_aIx (by rfl) (Nat.le_refl _) e1) ?_
  obtain ⟨p2, e2, h⟩ := bd h
  refine Ev.callv D_335 E_109 (by decide +kernel) C_11_81 0 [.int x1] (r := []) rfl (gd_o k_0 (by decide)) rfl (Nat.le_of_ble_eq_true rfl) (Nat.le_of_ble_eq_true rfl) (gL_calm_ok (by omega)  e2) ?_
  refine Ev.seg D_335 [(.aload_n 2, 1), (.aload_n 0, 1), (.iload_n 3, 1), (.iconst 1, 1), (.iadd, 1)] (by decide +kernel) (j := 0) (pc' := 836) (lv' := [(0, .ref XB), (1, .ref 0), (2, .ref 294), (3, .int q.1)]) (st' := [.int (q.1 + (1 : Int32)), .ref XB, .ref 294, .int p2]) rfl ?_
  obtain ⟨x3, e3, h⟩ := bd h
  refine Ev.iald D_335 (by decide +kernel) (S_aIx (by rfl) (Nat.le_refl _) e3) ?_
  obtain ⟨p4, e4, h⟩ := bd h
  refine Ev.callv D_335 E_236 (by decide +kernel) C_11_84 294 [.int x3] (r := [.int p2]) rfl (gd_o k_294 (by decide)) rfl (Nat.le_of_ble_eq_true rfl) (Nat.le_of_ble_eq_true rfl) (gM_calm_ok (by omega)  e4) ?_
  refine Ev.icmp D_335 (c := .eq) (off := 1548) (by decide +kernel) (t := 2388) rfl (fun c5 => ?_) (fun c5 => ?_)
  · have c5 : p2 = p4.1 := of_decide_eq_true c5
    rw [if_pos c5] at h
    refine Ev.seg D_335 [(.iinc 3 6, 3), (.goto (-2373), 3)] (by decide +kernel) (j := 0) (pc' := 18) (lv' := [(3, .int (q.1 + (6 : Int32))), (0, .ref XB), (1, .ref 0), (2, .ref 294)]) (st' := []) rfl ?_
    cases h
    exact Ev.sub (lv' := [(0, .ref XB), (1, .ref 0), (2, .ref 294), (3, .int (q.1 + (6 : Int32)))]) (subL_cons rfl (subL_cons rfl (subL_cons rfl (subL_cons rfl subL_nil)))) ho
  · have c5 : ¬ p2 = p4.1 := of_decide_eq_false c5
    rw [if_neg c5] at h
    refine Ev.seg D_335 [(.iconst 0, 1)] (by decide +kernel) (j := 0) (pc' := 844) (lv' := [(0, .ref XB), (1, .ref 0), (2, .ref 294), (3, .int q.1)]) (st' := [.int (0 : Int32)]) rfl ?_
    cases h
    obtain rfl : o = _ := ho
    exact Ev.zret D_335 (by decide) (by decide +kernel)
def gLaw_k17 (L : Nat) (q : Int32 × mT) : Option ((Int32 × mT) ⊕ (Int32 × mT)) :=
  (gL_drops q.2).bind fun p1 =>
  (gM_drops q.2).bind fun p2 =>
  if p1 = p2.1 then
    some (.inl (q.1 + (6 : Int32), p2.2))
  else
    some (.inr (((0 : Int32), p2.2)))
set_option maxRecDepth 8000 in
theorem gLaw_k17_ok {L d : Nat} (hd : 13 ≤ d + 1) : ∀ (q : Int32 × mT) (x : (Int32 × mT) ⊕ (Int32 × mT)), gLaw_k17 L q = some x → ∀ o, sK (fun q => Ev (d + 1) 335 18 [(0, .ref XB), (1, .ref 0), (2, .ref 294), (3, .int q.1)] [] (uS L q.2) o) (fun r => o = (some (.int r.1), uS L r.2)) x → Ev (d + 1) 335 845 [(0, .ref XB), (1, .ref 0), (2, .ref 294), (3, .int q.1)] [] (uS L q.2) o := by
  intro q x h o ho
  unfold gLaw_k17 at h
  refine Ev.seg D_335 [(.aload_n 1, 1)] (by decide +kernel) (j := 0) (pc' := 846) (lv' := [(0, .ref XB), (1, .ref 0), (2, .ref 294), (3, .int q.1)]) (st' := [.ref 0]) rfl ?_
  obtain ⟨p1, e1, h⟩ := bd h
  refine Ev.callv D_335 E_110 (by decide +kernel) C_11_85 0 [] (r := []) rfl (gd_o k_0 (by decide)) rfl (Nat.le_of_ble_eq_true rfl) (Nat.le_of_ble_eq_true rfl) (gL_drops_ok (by omega)  e1) ?_
  refine Ev.seg D_335 [(.aload_n 2, 1)] (by decide +kernel) (j := 0) (pc' := 850) (lv' := [(0, .ref XB), (1, .ref 0), (2, .ref 294), (3, .int q.1)]) (st' := [.ref 294, .int p1]) rfl ?_
  obtain ⟨p2, e2, h⟩ := bd h
  refine Ev.callv D_335 E_238 (by decide +kernel) C_11_88 294 [] (r := [.int p1]) rfl (gd_o k_294 (by decide)) rfl (Nat.le_of_ble_eq_true rfl) (Nat.le_of_ble_eq_true rfl) (gM_drops_ok (by omega)  e2) ?_
  refine Ev.icmp D_335 (c := .eq) (off := 1535) (by decide +kernel) (t := 2388) rfl (fun c3 => ?_) (fun c3 => ?_)
  · have c3 : p1 = p2.1 := of_decide_eq_true c3
    rw [if_pos c3] at h
    refine Ev.seg D_335 [(.iinc 3 6, 3), (.goto (-2373), 3)] (by decide +kernel) (j := 0) (pc' := 18) (lv' := [(3, .int (q.1 + (6 : Int32))), (0, .ref XB), (1, .ref 0), (2, .ref 294)]) (st' := []) rfl ?_
    cases h
    exact Ev.sub (lv' := [(0, .ref XB), (1, .ref 0), (2, .ref 294), (3, .int (q.1 + (6 : Int32)))]) (subL_cons rfl (subL_cons rfl (subL_cons rfl (subL_cons rfl subL_nil)))) ho
  · have c3 : ¬ p1 = p2.1 := of_decide_eq_false c3
    rw [if_neg c3] at h
    refine Ev.seg D_335 [(.iconst 0, 1)] (by decide +kernel) (j := 0) (pc' := 857) (lv' := [(0, .ref XB), (1, .ref 0), (2, .ref 294), (3, .int q.1)]) (st' := [.int (0 : Int32)]) rfl ?_
    cases h
    obtain rfl : o = _ := ho
    exact Ev.zret D_335 (by decide) (by decide +kernel)
def gLaw_k18 (L : Nat) (q : Int32 × mT) : Option ((Int32 × mT) ⊕ (Int32 × mT)) :=
  (rdI (q.2.1 XB) L (q.1 + (1 : Int32))).bind fun x1 =>
  (gL_home x1 q.2).bind fun p2 =>
  (rdI (q.2.1 XB) L (q.1 + (1 : Int32))).bind fun x3 =>
  (gM_home x3 q.2).bind fun p4 =>
  if p2 = p4.1 then
    some (.inl (q.1 + (6 : Int32), p4.2))
  else
    some (.inr (((0 : Int32), p4.2)))
set_option maxRecDepth 8000 in
theorem gLaw_k18_ok {L d : Nat} (hd : 13 ≤ d + 1) : ∀ (q : Int32 × mT) (x : (Int32 × mT) ⊕ (Int32 × mT)), gLaw_k18 L q = some x → ∀ o, sK (fun q => Ev (d + 1) 335 18 [(0, .ref XB), (1, .ref 0), (2, .ref 294), (3, .int q.1)] [] (uS L q.2) o) (fun r => o = (some (.int r.1), uS L r.2)) x → Ev (d + 1) 335 858 [(0, .ref XB), (1, .ref 0), (2, .ref 294), (3, .int q.1)] [] (uS L q.2) o := by
  intro q x h o ho
  unfold gLaw_k18 at h
  refine Ev.seg D_335 [(.aload_n 1, 1), (.aload_n 0, 1), (.iload_n 3, 1), (.iconst 1, 1), (.iadd, 1)] (by decide +kernel) (j := 0) (pc' := 863) (lv' := [(0, .ref XB), (1, .ref 0), (2, .ref 294), (3, .int q.1)]) (st' := [.int (q.1 + (1 : Int32)), .ref XB, .ref 0]) rfl ?_
  obtain ⟨x1, e1, h⟩ := bd h
  refine Ev.iald D_335 (by decide +kernel) (S_aIx (by rfl) (Nat.le_refl _) e1) ?_
  obtain ⟨p2, e2, h⟩ := bd h
  refine Ev.callv D_335 E_111 (by decide +kernel) C_11_89 0 [.int x1] (r := []) rfl (gd_o k_0 (by decide)) rfl (Nat.le_of_ble_eq_true rfl) (Nat.le_of_ble_eq_true rfl) (gL_home_ok (by omega)  e2) ?_
  refine Ev.seg D_335 [(.aload_n 2, 1), (.aload_n 0, 1), (.iload_n 3, 1), (.iconst 1, 1), (.iadd, 1)] (by decide +kernel) (j := 0) (pc' := 872) (lv' := [(0, .ref XB), (1, .ref 0), (2, .ref 294), (3, .int q.1)]) (st' := [.int (q.1 + (1 : Int32)), .ref XB, .ref 294, .int p2]) rfl ?_
  obtain ⟨x3, e3, h⟩ := bd h
  refine Ev.iald D_335 (by decide +kernel) (S_aIx (by rfl) (Nat.le_refl _) e3) ?_
  obtain ⟨p4, e4, h⟩ := bd h
  refine Ev.callv D_335 E_239 (by decide +kernel) C_11_92 294 [.int x3] (r := [.int p2]) rfl (gd_o k_294 (by decide)) rfl (Nat.le_of_ble_eq_true rfl) (Nat.le_of_ble_eq_true rfl) (gM_home_ok (by omega)  e4) ?_
  refine Ev.icmp D_335 (c := .eq) (off := 1512) (by decide +kernel) (t := 2388) rfl (fun c5 => ?_) (fun c5 => ?_)
  · have c5 : p2 = p4.1 := of_decide_eq_true c5
    rw [if_pos c5] at h
    refine Ev.seg D_335 [(.iinc 3 6, 3), (.goto (-2373), 3)] (by decide +kernel) (j := 0) (pc' := 18) (lv' := [(3, .int (q.1 + (6 : Int32))), (0, .ref XB), (1, .ref 0), (2, .ref 294)]) (st' := []) rfl ?_
    cases h
    exact Ev.sub (lv' := [(0, .ref XB), (1, .ref 0), (2, .ref 294), (3, .int (q.1 + (6 : Int32)))]) (subL_cons rfl (subL_cons rfl (subL_cons rfl (subL_cons rfl subL_nil)))) ho
  · have c5 : ¬ p2 = p4.1 := of_decide_eq_false c5
    rw [if_neg c5] at h
    refine Ev.seg D_335 [(.iconst 0, 1)] (by decide +kernel) (j := 0) (pc' := 880) (lv' := [(0, .ref XB), (1, .ref 0), (2, .ref 294), (3, .int q.1)]) (st' := [.int (0 : Int32)]) rfl ?_
    cases h
    obtain rfl : o = _ := ho
    exact Ev.zret D_335 (by decide) (by decide +kernel)
def gLaw_k19 (L : Nat) (q : Int32 × mT) : Option ((Int32 × mT) ⊕ (Int32 × mT)) :=
  (gL_wins q.2).bind fun p1 =>
  (gM_wins q.2).bind fun p2 =>
  if p1 = p2.1 then
    some (.inl (q.1 + (6 : Int32), p2.2))
  else
    some (.inr (((0 : Int32), p2.2)))
set_option maxRecDepth 8000 in
theorem gLaw_k19_ok {L d : Nat} (hd : 13 ≤ d + 1) : ∀ (q : Int32 × mT) (x : (Int32 × mT) ⊕ (Int32 × mT)), gLaw_k19 L q = some x → ∀ o, sK (fun q => Ev (d + 1) 335 18 [(0, .ref XB), (1, .ref 0), (2, .ref 294), (3, .int q.1)] [] (uS L q.2) o) (fun r => o = (some (.int r.1), uS L r.2)) x → Ev (d + 1) 335 881 [(0, .ref XB), (1, .ref 0), (2, .ref 294), (3, .int q.1)] [] (uS L q.2) o := by
  intro q x h o ho
  unfold gLaw_k19 at h
  refine Ev.seg D_335 [(.aload_n 1, 1)] (by decide +kernel) (j := 0) (pc' := 882) (lv' := [(0, .ref XB), (1, .ref 0), (2, .ref 294), (3, .int q.1)]) (st' := [.ref 0]) rfl ?_
  obtain ⟨p1, e1, h⟩ := bd h
  refine Ev.callv D_335 E_112 (by decide +kernel) C_11_93 0 [] (r := []) rfl (gd_o k_0 (by decide)) rfl (Nat.le_of_ble_eq_true rfl) (Nat.le_of_ble_eq_true rfl) (gL_wins_ok (by omega)  e1) ?_
  refine Ev.seg D_335 [(.aload_n 2, 1)] (by decide +kernel) (j := 0) (pc' := 886) (lv' := [(0, .ref XB), (1, .ref 0), (2, .ref 294), (3, .int q.1)]) (st' := [.ref 294, .int p1]) rfl ?_
  obtain ⟨p2, e2, h⟩ := bd h
  refine Ev.callv D_335 E_241 (by decide +kernel) C_11_96 294 [] (r := [.int p1]) rfl (gd_o k_294 (by decide)) rfl (Nat.le_of_ble_eq_true rfl) (Nat.le_of_ble_eq_true rfl) (gM_wins_ok (by omega)  e2) ?_
  refine Ev.icmp D_335 (c := .eq) (off := 1499) (by decide +kernel) (t := 2388) rfl (fun c3 => ?_) (fun c3 => ?_)
  · have c3 : p1 = p2.1 := of_decide_eq_true c3
    rw [if_pos c3] at h
    refine Ev.seg D_335 [(.iinc 3 6, 3), (.goto (-2373), 3)] (by decide +kernel) (j := 0) (pc' := 18) (lv' := [(3, .int (q.1 + (6 : Int32))), (0, .ref XB), (1, .ref 0), (2, .ref 294)]) (st' := []) rfl ?_
    cases h
    exact Ev.sub (lv' := [(0, .ref XB), (1, .ref 0), (2, .ref 294), (3, .int (q.1 + (6 : Int32)))]) (subL_cons rfl (subL_cons rfl (subL_cons rfl (subL_cons rfl subL_nil)))) ho
  · have c3 : ¬ p1 = p2.1 := of_decide_eq_false c3
    rw [if_neg c3] at h
    refine Ev.seg D_335 [(.iconst 0, 1)] (by decide +kernel) (j := 0) (pc' := 893) (lv' := [(0, .ref XB), (1, .ref 0), (2, .ref 294), (3, .int q.1)]) (st' := [.int (0 : Int32)]) rfl ?_
    cases h
    obtain rfl : o = _ := ho
    exact Ev.zret D_335 (by decide) (by decide +kernel)
def gLaw_k20 (L : Nat) (q : Int32 × mT) : Option ((Int32 × mT) ⊕ (Int32 × mT)) :=
  (rdI (q.2.1 XB) L (q.1 + (1 : Int32))).bind fun x1 =>
  (rdI (q.2.1 XB) L (q.1 + (2 : Int32))).bind fun x2 =>
  (rdI (q.2.1 XB) L (q.1 + (3 : Int32))).bind fun x3 =>
  (gL_gap x1 x2 x3 q.2).bind fun p4 =>
  (rdI (q.2.1 XB) L (q.1 + (1 : Int32))).bind fun x5 =>
  (rdI (q.2.1 XB) L (q.1 + (2 : Int32))).bind fun x6 =>
  (rdI (q.2.1 XB) L (q.1 + (3 : Int32))).bind fun x7 =>
  (gM_gap x5 x6 x7 q.2).bind fun p8 =>
  if p4 = p8.1 then
    some (.inl (q.1 + (6 : Int32), p8.2))
  else
    some (.inr (((0 : Int32), p8.2)))
set_option maxRecDepth 8000 in
theorem gLaw_k20_ok {L d : Nat} (hd : 13 ≤ d + 1) : ∀ (q : Int32 × mT) (x : (Int32 × mT) ⊕ (Int32 × mT)), gLaw_k20 L q = some x → ∀ o, sK (fun q => Ev (d + 1) 335 18 [(0, .ref XB), (1, .ref 0), (2, .ref 294), (3, .int q.1)] [] (uS L q.2) o) (fun r => o = (some (.int r.1), uS L r.2)) x → Ev (d + 1) 335 894 [(0, .ref XB), (1, .ref 0), (2, .ref 294), (3, .int q.1)] [] (uS L q.2) o := by
  intro q x h o ho
  unfold gLaw_k20 at h
  refine Ev.seg D_335 [(.aload_n 1, 1), (.aload_n 0, 1), (.iload_n 3, 1), (.iconst 1, 1), (.iadd, 1)] (by decide +kernel) (j := 0) (pc' := 899) (lv' := [(0, .ref XB), (1, .ref 0), (2, .ref 294), (3, .int q.1)]) (st' := [.int (q.1 + (1 : Int32)), .ref XB, .ref 0]) rfl ?_
  obtain ⟨x1, e1, h⟩ := bd h
  refine Ev.iald D_335 (by decide +kernel) (S_aIx (by rfl) (Nat.le_refl _) e1) ?_
  refine Ev.seg D_335 [(.aload_n 0, 1), (.iload_n 3, 1), (.iconst 2, 1), (.iadd, 1)] (by decide +kernel) (j := 0) (pc' := 904) (lv' := [(0, .ref XB), (1, .ref 0), (2, .ref 294), (3, .int q.1)]) (st' := [.int (q.1 + (2 : Int32)), .ref XB, .int x1, .ref 0]) rfl ?_
  obtain ⟨x2, e2, h⟩ := bd h
  refine Ev.iald D_335 (by decide +kernel) (S_aIx (by rfl) (Nat.le_refl _) e2) ?_
  refine Ev.seg D_335 [(.aload_n 0, 1), (.iload_n 3, 1), (.iconst 3, 1), (.iadd, 1)] (by decide +kernel) (j := 0) (pc' := 909) (lv' := [(0, .ref XB), (1, .ref 0), (2, .ref 294), (3, .int q.1)]) (st' := [.int (q.1 + (3 : Int32)), .ref XB, .int x2, .int x1, .ref 0]) rfl ?_
  obtain ⟨x3, e3, h⟩ := bd h
  refine Ev.iald D_335 (by decide +kernel) (S_aIx (by rfl) (Nat.le_refl _) e3) ?_
  obtain ⟨p4, e4, h⟩ := bd h
  refine Ev.callv D_335 E_113 (by decide +kernel) C_11_97 0 [.int x1, .int x2, .int x3] (r := []) rfl (gd_o k_0 (by decide)) rfl (Nat.le_of_ble_eq_true rfl) (Nat.le_of_ble_eq_true rfl) (gL_gap_ok (by omega)  e4) ?_
  refine Ev.seg D_335 [(.aload_n 2, 1), (.aload_n 0, 1), (.iload_n 3, 1), (.iconst 1, 1), (.iadd, 1)] (by decide +kernel) (j := 0) (pc' := 918) (lv' := [(0, .ref XB), (1, .ref 0), (2, .ref 294), (3, .int q.1)]) (st' := [.int (q.1 + (1 : Int32)), .ref XB, .ref 294, .int p4]) rfl ?_
  obtain ⟨x5, e5, h⟩ := bd h
  refine Ev.iald D_335 (by decide +kernel) (S_aIx (by rfl) (Nat.le_refl _) e5) ?_
  refine Ev.seg D_335 [(.aload_n 0, 1), (.iload_n 3, 1), (.iconst 2, 1), (.iadd, 1)] (by decide +kernel) (j := 0) (pc' := 923) (lv' := [(0, .ref XB), (1, .ref 0), (2, .ref 294), (3, .int q.1)]) (st' := [.int (q.1 + (2 : Int32)), .ref XB, .int x5, .ref 294, .int p4]) rfl ?_
  obtain ⟨x6, e6, h⟩ := bd h
  refine Ev.iald D_335 (by decide +kernel) (S_aIx (by rfl) (Nat.le_refl _) e6) ?_
  refine Ev.seg D_335 [(.aload_n 0, 1), (.iload_n 3, 1), (.iconst 3, 1), (.iadd, 1)] (by decide +kernel) (j := 0) (pc' := 928) (lv' := [(0, .ref XB), (1, .ref 0), (2, .ref 294), (3, .int q.1)]) (st' := [.int (q.1 + (3 : Int32)), .ref XB, .int x6, .int x5, .ref 294, .int p4]) rfl ?_
  obtain ⟨x7, e7, h⟩ := bd h
  refine Ev.iald D_335 (by decide +kernel) (S_aIx (by rfl) (Nat.le_refl _) e7) ?_
  obtain ⟨p8, e8, h⟩ := bd h
  refine Ev.callv D_335 E_243 (by decide +kernel) C_11_101 294 [.int x5, .int x6, .int x7] (r := [.int p4]) rfl (gd_o k_294 (by decide)) rfl (Nat.le_of_ble_eq_true rfl) (Nat.le_of_ble_eq_true rfl) (gM_gap_ok (by omega)  e8) ?_
  refine Ev.icmp D_335 (c := .eq) (off := 1456) (by decide +kernel) (t := 2388) rfl (fun c9 => ?_) (fun c9 => ?_)
  · have c9 : p4 = p8.1 := of_decide_eq_true c9
    rw [if_pos c9] at h
    refine Ev.seg D_335 [(.iinc 3 6, 3), (.goto (-2373), 3)] (by decide +kernel) (j := 0) (pc' := 18) (lv' := [(3, .int (q.1 + (6 : Int32))), (0, .ref XB), (1, .ref 0), (2, .ref 294)]) (st' := []) rfl ?_
    cases h
    exact Ev.sub (lv' := [(0, .ref XB), (1, .ref 0), (2, .ref 294), (3, .int (q.1 + (6 : Int32)))]) (subL_cons rfl (subL_cons rfl (subL_cons rfl (subL_cons rfl subL_nil)))) ho
  · have c9 : ¬ p4 = p8.1 := of_decide_eq_false c9
    rw [if_neg c9] at h
    refine Ev.seg D_335 [(.iconst 0, 1)] (by decide +kernel) (j := 0) (pc' := 936) (lv' := [(0, .ref XB), (1, .ref 0), (2, .ref 294), (3, .int q.1)]) (st' := [.int (0 : Int32)]) rfl ?_
    cases h
    obtain rfl : o = _ := ho
    exact Ev.zret D_335 (by decide) (by decide +kernel)
def gLaw_k21 (L : Nat) (q : Int32 × mT) : Option ((Int32 × mT) ⊕ (Int32 × mT)) :=
  (gL_changes q.2).bind fun p1 =>
  (gM_changes q.2).bind fun p2 =>
  if p1 = p2.1 then
    some (.inl (q.1 + (6 : Int32), p2.2))
  else
    some (.inr (((0 : Int32), p2.2)))
set_option maxRecDepth 8000 in
theorem gLaw_k21_ok {L d : Nat} (hd : 13 ≤ d + 1) : ∀ (q : Int32 × mT) (x : (Int32 × mT) ⊕ (Int32 × mT)), gLaw_k21 L q = some x → ∀ o, sK (fun q => Ev (d + 1) 335 18 [(0, .ref XB), (1, .ref 0), (2, .ref 294), (3, .int q.1)] [] (uS L q.2) o) (fun r => o = (some (.int r.1), uS L r.2)) x → Ev (d + 1) 335 937 [(0, .ref XB), (1, .ref 0), (2, .ref 294), (3, .int q.1)] [] (uS L q.2) o := by
  intro q x h o ho
  unfold gLaw_k21 at h
  refine Ev.seg D_335 [(.aload_n 1, 1)] (by decide +kernel) (j := 0) (pc' := 938) (lv' := [(0, .ref XB), (1, .ref 0), (2, .ref 294), (3, .int q.1)]) (st' := [.ref 0]) rfl ?_
  obtain ⟨p1, e1, h⟩ := bd h
  refine Ev.callv D_335 E_114 (by decide +kernel) C_11_102 0 [] (r := []) rfl (gd_o k_0 (by decide)) rfl (Nat.le_of_ble_eq_true rfl) (Nat.le_of_ble_eq_true rfl) (gL_changes_ok (by omega)  e1) ?_
  refine Ev.seg D_335 [(.aload_n 2, 1)] (by decide +kernel) (j := 0) (pc' := 942) (lv' := [(0, .ref XB), (1, .ref 0), (2, .ref 294), (3, .int q.1)]) (st' := [.ref 294, .int p1]) rfl ?_
  obtain ⟨p2, e2, h⟩ := bd h
  refine Ev.callv D_335 E_244 (by decide +kernel) C_11_105 294 [] (r := [.int p1]) rfl (gd_o k_294 (by decide)) rfl (Nat.le_of_ble_eq_true rfl) (Nat.le_of_ble_eq_true rfl) (gM_changes_ok (by omega)  e2) ?_
  refine Ev.icmp D_335 (c := .eq) (off := 1443) (by decide +kernel) (t := 2388) rfl (fun c3 => ?_) (fun c3 => ?_)
  · have c3 : p1 = p2.1 := of_decide_eq_true c3
    rw [if_pos c3] at h
    refine Ev.seg D_335 [(.iinc 3 6, 3), (.goto (-2373), 3)] (by decide +kernel) (j := 0) (pc' := 18) (lv' := [(3, .int (q.1 + (6 : Int32))), (0, .ref XB), (1, .ref 0), (2, .ref 294)]) (st' := []) rfl ?_
    cases h
    exact Ev.sub (lv' := [(0, .ref XB), (1, .ref 0), (2, .ref 294), (3, .int (q.1 + (6 : Int32)))]) (subL_cons rfl (subL_cons rfl (subL_cons rfl (subL_cons rfl subL_nil)))) ho
  · have c3 : ¬ p1 = p2.1 := of_decide_eq_false c3
    rw [if_neg c3] at h
    refine Ev.seg D_335 [(.iconst 0, 1)] (by decide +kernel) (j := 0) (pc' := 949) (lv' := [(0, .ref XB), (1, .ref 0), (2, .ref 294), (3, .int q.1)]) (st' := [.int (0 : Int32)]) rfl ?_
    cases h
    obtain rfl : o = _ := ho
    exact Ev.zret D_335 (by decide) (by decide +kernel)
def gLaw_k22 (L : Nat) (q : Int32 × mT) : Option ((Int32 × mT) ⊕ (Int32 × mT)) :=
  (rdI (q.2.1 XB) L (q.1 + (1 : Int32))).bind fun x1 =>
  (gL_wavers x1 q.2).bind fun p2 =>
  (rdI (q.2.1 XB) L (q.1 + (1 : Int32))).bind fun x3 =>
  (gM_wavers x3 q.2).bind fun p4 =>
  if p2 = p4.1 then
    some (.inl (q.1 + (6 : Int32), p4.2))
  else
    some (.inr (((0 : Int32), p4.2)))
set_option maxRecDepth 8000 in
theorem gLaw_k22_ok {L d : Nat} (hd : 13 ≤ d + 1) : ∀ (q : Int32 × mT) (x : (Int32 × mT) ⊕ (Int32 × mT)), gLaw_k22 L q = some x → ∀ o, sK (fun q => Ev (d + 1) 335 18 [(0, .ref XB), (1, .ref 0), (2, .ref 294), (3, .int q.1)] [] (uS L q.2) o) (fun r => o = (some (.int r.1), uS L r.2)) x → Ev (d + 1) 335 950 [(0, .ref XB), (1, .ref 0), (2, .ref 294), (3, .int q.1)] [] (uS L q.2) o := by
  intro q x h o ho
  unfold gLaw_k22 at h
  refine Ev.seg D_335 [(.aload_n 1, 1), (.aload_n 0, 1), (.iload_n 3, 1), (.iconst 1, 1), (.iadd, 1)] (by decide +kernel) (j := 0) (pc' := 955) (lv' := [(0, .ref XB), (1, .ref 0), (2, .ref 294), (3, .int q.1)]) (st' := [.int (q.1 + (1 : Int32)), .ref XB, .ref 0]) rfl ?_
  obtain ⟨x1, e1, h⟩ := bd h
  refine Ev.iald D_335 (by decide +kernel) (S_aIx (by rfl) (Nat.le_refl _) e1) ?_
  obtain ⟨p2, e2, h⟩ := bd h
  refine Ev.callv D_335 E_115 (by decide +kernel) C_11_106 0 [.int x1] (r := []) rfl (gd_o k_0 (by decide)) rfl (Nat.le_of_ble_eq_true rfl) (Nat.le_of_ble_eq_true rfl) (gL_wavers_ok (by omega)  e2) ?_
  refine Ev.seg D_335 [(.aload_n 2, 1), (.aload_n 0, 1), (.iload_n 3, 1), (.iconst 1, 1), (.iadd, 1)] (by decide +kernel) (j := 0) (pc' := 964) (lv' := [(0, .ref XB), (1, .ref 0), (2, .ref 294), (3, .int q.1)]) (st' := [.int (q.1 + (1 : Int32)), .ref XB, .ref 294, .int p2]) rfl ?_
  obtain ⟨x3, e3, h⟩ := bd h
  refine Ev.iald D_335 (by decide +kernel) (S_aIx (by rfl) (Nat.le_refl _) e3) ?_
  obtain ⟨p4, e4, h⟩ := bd h
  refine Ev.callv D_335 E_245 (by decide +kernel) C_11_109 294 [.int x3] (r := [.int p2]) rfl (gd_o k_294 (by decide)) rfl (Nat.le_of_ble_eq_true rfl) (Nat.le_of_ble_eq_true rfl) (gM_wavers_ok (by omega)  e4) ?_
  refine Ev.icmp D_335 (c := .eq) (off := 1420) (by decide +kernel) (t := 2388) rfl (fun c5 => ?_) (fun c5 => ?_)
  · have c5 : p2 = p4.1 := of_decide_eq_true c5
    rw [if_pos c5] at h
    refine Ev.seg D_335 [(.iinc 3 6, 3), (.goto (-2373), 3)] (by decide +kernel) (j := 0) (pc' := 18) (lv' := [(3, .int (q.1 + (6 : Int32))), (0, .ref XB), (1, .ref 0), (2, .ref 294)]) (st' := []) rfl ?_
    cases h
    exact Ev.sub (lv' := [(0, .ref XB), (1, .ref 0), (2, .ref 294), (3, .int (q.1 + (6 : Int32)))]) (subL_cons rfl (subL_cons rfl (subL_cons rfl (subL_cons rfl subL_nil)))) ho
  · have c5 : ¬ p2 = p4.1 := of_decide_eq_false c5
    rw [if_neg c5] at h
    refine Ev.seg D_335 [(.iconst 0, 1)] (by decide +kernel) (j := 0) (pc' := 972) (lv' := [(0, .ref XB), (1, .ref 0), (2, .ref 294), (3, .int q.1)]) (st' := [.int (0 : Int32)]) rfl ?_
    cases h
    obtain rfl : o = _ := ho
    exact Ev.zret D_335 (by decide) (by decide +kernel)
def gLaw_k23 (L : Nat) (q : Int32 × mT) : Option ((Int32 × mT) ⊕ (Int32 × mT)) :=
  (rdI (q.2.1 XB) L (q.1 + (1 : Int32))).bind fun x1 =>
  (rdI (q.2.1 XB) L (q.1 + (2 : Int32))).bind fun x2 =>
  (gL_speed x1 x2 q.2).bind fun p3 =>
  (rdI (q.2.1 XB) L (q.1 + (1 : Int32))).bind fun x4 =>
  (rdI (q.2.1 XB) L (q.1 + (2 : Int32))).bind fun x5 =>
  (gM_speed x4 x5 q.2).bind fun p6 =>
  if p3 = p6.1 then
    some (.inl (q.1 + (6 : Int32), p6.2))
  else
    some (.inr (((0 : Int32), p6.2)))
set_option maxRecDepth 8000 in
theorem gLaw_k23_ok {L d : Nat} (hd : 13 ≤ d + 1) : ∀ (q : Int32 × mT) (x : (Int32 × mT) ⊕ (Int32 × mT)), gLaw_k23 L q = some x → ∀ o, sK (fun q => Ev (d + 1) 335 18 [(0, .ref XB), (1, .ref 0), (2, .ref 294), (3, .int q.1)] [] (uS L q.2) o) (fun r => o = (some (.int r.1), uS L r.2)) x → Ev (d + 1) 335 973 [(0, .ref XB), (1, .ref 0), (2, .ref 294), (3, .int q.1)] [] (uS L q.2) o := by
  intro q x h o ho
  unfold gLaw_k23 at h
  refine Ev.seg D_335 [(.aload_n 1, 1), (.aload_n 0, 1), (.iload_n 3, 1), (.iconst 1, 1), (.iadd, 1)] (by decide +kernel) (j := 0) (pc' := 978) (lv' := [(0, .ref XB), (1, .ref 0), (2, .ref 294), (3, .int q.1)]) (st' := [.int (q.1 + (1 : Int32)), .ref XB, .ref 0]) rfl ?_
  obtain ⟨x1, e1, h⟩ := bd h
  refine Ev.iald D_335 (by decide +kernel) (S_aIx (by rfl) (Nat.le_refl _) e1) ?_
  refine Ev.seg D_335 [(.aload_n 0, 1), (.iload_n 3, 1), (.iconst 2, 1), (.iadd, 1)] (by decide +kernel) (j := 0) (pc' := 983) (lv' := [(0, .ref XB), (1, .ref 0), (2, .ref 294), (3, .int q.1)]) (st' := [.int (q.1 + (2 : Int32)), .ref XB, .int x1, .ref 0]) rfl ?_
  obtain ⟨x2, e2, h⟩ := bd h
  refine Ev.iald D_335 (by decide +kernel) (S_aIx (by rfl) (Nat.le_refl _) e2) ?_
  obtain ⟨p3, e3, h⟩ := bd h
  refine Ev.callv D_335 E_116 (by decide +kernel) C_11_110 0 [.int x1, .int x2] (r := []) rfl (gd_o k_0 (by decide)) rfl (Nat.le_of_ble_eq_true rfl) (Nat.le_of_ble_eq_true rfl) (gL_speed_ok (by omega)  e3) ?_
  refine Ev.seg D_335 [(.aload_n 2, 1), (.aload_n 0, 1), (.iload_n 3, 1), (.iconst 1, 1), (.iadd, 1)] (by decide +kernel) (j := 0) (pc' := 992) (lv' := [(0, .ref XB), (1, .ref 0), (2, .ref 294), (3, .int q.1)]) (st' := [.int (q.1 + (1 : Int32)), .ref XB, .ref 294, .int p3]) rfl ?_
  obtain ⟨x4, e4, h⟩ := bd h
  refine Ev.iald D_335 (by decide +kernel) (S_aIx (by rfl) (Nat.le_refl _) e4) ?_
  refine Ev.seg D_335 [(.aload_n 0, 1), (.iload_n 3, 1), (.iconst 2, 1), (.iadd, 1)] (by decide +kernel) (j := 0) (pc' := 997) (lv' := [(0, .ref XB), (1, .ref 0), (2, .ref 294), (3, .int q.1)]) (st' := [.int (q.1 + (2 : Int32)), .ref XB, .int x4, .ref 294, .int p3]) rfl ?_
  obtain ⟨x5, e5, h⟩ := bd h
  refine Ev.iald D_335 (by decide +kernel) (S_aIx (by rfl) (Nat.le_refl _) e5) ?_
  obtain ⟨p6, e6, h⟩ := bd h
  refine Ev.callv D_335 E_247 (by decide +kernel) C_11_113 294 [.int x4, .int x5] (r := [.int p3]) rfl (gd_o k_294 (by decide)) rfl (Nat.le_of_ble_eq_true rfl) (Nat.le_of_ble_eq_true rfl) (gM_speed_ok (by omega)  e6) ?_
  refine Ev.icmp D_335 (c := .eq) (off := 1387) (by decide +kernel) (t := 2388) rfl (fun c7 => ?_) (fun c7 => ?_)
  · have c7 : p3 = p6.1 := of_decide_eq_true c7
    rw [if_pos c7] at h
    refine Ev.seg D_335 [(.iinc 3 6, 3), (.goto (-2373), 3)] (by decide +kernel) (j := 0) (pc' := 18) (lv' := [(3, .int (q.1 + (6 : Int32))), (0, .ref XB), (1, .ref 0), (2, .ref 294)]) (st' := []) rfl ?_
    cases h
    exact Ev.sub (lv' := [(0, .ref XB), (1, .ref 0), (2, .ref 294), (3, .int (q.1 + (6 : Int32)))]) (subL_cons rfl (subL_cons rfl (subL_cons rfl (subL_cons rfl subL_nil)))) ho
  · have c7 : ¬ p3 = p6.1 := of_decide_eq_false c7
    rw [if_neg c7] at h
    refine Ev.seg D_335 [(.iconst 0, 1)] (by decide +kernel) (j := 0) (pc' := 1005) (lv' := [(0, .ref XB), (1, .ref 0), (2, .ref 294), (3, .int q.1)]) (st' := [.int (0 : Int32)]) rfl ?_
    cases h
    obtain rfl : o = _ := ho
    exact Ev.zret D_335 (by decide) (by decide +kernel)
def gLaw_k24 (L : Nat) (q : Int32 × mT) : Option ((Int32 × mT) ⊕ (Int32 × mT)) :=
  (rdI (q.2.1 XB) L (q.1 + (1 : Int32))).bind fun x1 =>
  (rdI (q.2.1 XB) L (q.1 + (2 : Int32))).bind fun x2 =>
  (gL_lacks x1 x2 q.2).bind fun p3 =>
  (rdI (q.2.1 XB) L (q.1 + (1 : Int32))).bind fun x4 =>
  (rdI (q.2.1 XB) L (q.1 + (2 : Int32))).bind fun x5 =>
  (gM_lacks x4 x5 q.2).bind fun p6 =>
  if p3 = p6.1 then
    some (.inl (q.1 + (6 : Int32), p6.2))
  else
    some (.inr (((0 : Int32), p6.2)))
set_option maxRecDepth 8000 in
theorem gLaw_k24_ok {L d : Nat} (hd : 13 ≤ d + 1) : ∀ (q : Int32 × mT) (x : (Int32 × mT) ⊕ (Int32 × mT)), gLaw_k24 L q = some x → ∀ o, sK (fun q => Ev (d + 1) 335 18 [(0, .ref XB), (1, .ref 0), (2, .ref 294), (3, .int q.1)] [] (uS L q.2) o) (fun r => o = (some (.int r.1), uS L r.2)) x → Ev (d + 1) 335 1006 [(0, .ref XB), (1, .ref 0), (2, .ref 294), (3, .int q.1)] [] (uS L q.2) o := by
  intro q x h o ho
  unfold gLaw_k24 at h
  refine Ev.seg D_335 [(.aload_n 1, 1), (.aload_n 0, 1), (.iload_n 3, 1), (.iconst 1, 1), (.iadd, 1)] (by decide +kernel) (j := 0) (pc' := 1011) (lv' := [(0, .ref XB), (1, .ref 0), (2, .ref 294), (3, .int q.1)]) (st' := [.int (q.1 + (1 : Int32)), .ref XB, .ref 0]) rfl ?_
  obtain ⟨x1, e1, h⟩ := bd h
  refine Ev.iald D_335 (by decide +kernel) (S_aIx (by rfl) (Nat.le_refl _) e1) ?_
  refine Ev.seg D_335 [(.aload_n 0, 1), (.iload_n 3, 1), (.iconst 2, 1), (.iadd, 1)] (by decide +kernel) (j := 0) (pc' := 1016) (lv' := [(0, .ref XB), (1, .ref 0), (2, .ref 294), (3, .int q.1)]) (st' := [.int (q.1 + (2 : Int32)), .ref XB, .int x1, .ref 0]) rfl ?_
  obtain ⟨x2, e2, h⟩ := bd h
  refine Ev.iald D_335 (by decide +kernel) (S_aIx (by rfl) (Nat.le_refl _) e2) ?_
  obtain ⟨p3, e3, h⟩ := bd h
  refine Ev.callv D_335 E_117 (by decide +kernel) C_11_114 0 [.int x1, .int x2] (r := []) rfl (gd_o k_0 (by decide)) rfl (Nat.le_of_ble_eq_true rfl) (Nat.le_of_ble_eq_true rfl) (gL_lacks_ok (by omega)  e3) ?_
  refine Ev.seg D_335 [(.aload_n 2, 1), (.aload_n 0, 1), (.iload_n 3, 1), (.iconst 1, 1), (.iadd, 1)] (by decide +kernel) (j := 0) (pc' := 1025) (lv' := [(0, .ref XB), (1, .ref 0), (2, .ref 294), (3, .int q.1)]) (st' := [.int (q.1 + (1 : Int32)), .ref XB, .ref 294, .int p3]) rfl ?_
  obtain ⟨x4, e4, h⟩ := bd h
  refine Ev.iald D_335 (by decide +kernel) (S_aIx (by rfl) (Nat.le_refl _) e4) ?_
  refine Ev.seg D_335 [(.aload_n 0, 1), (.iload_n 3, 1), (.iconst 2, 1), (.iadd, 1)] (by decide +kernel) (j := 0) (pc' := 1030) (lv' := [(0, .ref XB), (1, .ref 0), (2, .ref 294), (3, .int q.1)]) (st' := [.int (q.1 + (2 : Int32)), .ref XB, .int x4, .ref 294, .int p3]) rfl ?_
  obtain ⟨x5, e5, h⟩ := bd h
  refine Ev.iald D_335 (by decide +kernel) (S_aIx (by rfl) (Nat.le_refl _) e5) ?_
  obtain ⟨p6, e6, h⟩ := bd h
  refine Ev.callv D_335 E_248 (by decide +kernel) C_11_117 294 [.int x4, .int x5] (r := [.int p3]) rfl (gd_o k_294 (by decide)) rfl (Nat.le_of_ble_eq_true rfl) (Nat.le_of_ble_eq_true rfl) (gM_lacks_ok (by omega)  e6) ?_
  refine Ev.icmp D_335 (c := .eq) (off := 1354) (by decide +kernel) (t := 2388) rfl (fun c7 => ?_) (fun c7 => ?_)
  · have c7 : p3 = p6.1 := of_decide_eq_true c7
    rw [if_pos c7] at h
    refine Ev.seg D_335 [(.iinc 3 6, 3), (.goto (-2373), 3)] (by decide +kernel) (j := 0) (pc' := 18) (lv' := [(3, .int (q.1 + (6 : Int32))), (0, .ref XB), (1, .ref 0), (2, .ref 294)]) (st' := []) rfl ?_
    cases h
    exact Ev.sub (lv' := [(0, .ref XB), (1, .ref 0), (2, .ref 294), (3, .int (q.1 + (6 : Int32)))]) (subL_cons rfl (subL_cons rfl (subL_cons rfl (subL_cons rfl subL_nil)))) ho
  · have c7 : ¬ p3 = p6.1 := of_decide_eq_false c7
    rw [if_neg c7] at h
    refine Ev.seg D_335 [(.iconst 0, 1)] (by decide +kernel) (j := 0) (pc' := 1038) (lv' := [(0, .ref XB), (1, .ref 0), (2, .ref 294), (3, .int q.1)]) (st' := [.int (0 : Int32)]) rfl ?_
    cases h
    obtain rfl : o = _ := ho
    exact Ev.zret D_335 (by decide) (by decide +kernel)
def gLaw_k25 (L : Nat) (q : Int32 × mT) : Option ((Int32 × mT) ⊕ (Int32 × mT)) :=
  (rdI (q.2.1 XB) L (q.1 + (1 : Int32))).bind fun x1 =>
  (gL_total x1 q.2).bind fun p2 =>
  (rdI (q.2.1 XB) L (q.1 + (1 : Int32))).bind fun x3 =>
  (gM_total x3 q.2).bind fun p4 =>
  if p2 = p4.1 then
    some (.inl (q.1 + (6 : Int32), p4.2))
  else
    some (.inr (((0 : Int32), p4.2)))
set_option maxRecDepth 8000 in
theorem gLaw_k25_ok {L d : Nat} (hd : 13 ≤ d + 1) : ∀ (q : Int32 × mT) (x : (Int32 × mT) ⊕ (Int32 × mT)), gLaw_k25 L q = some x → ∀ o, sK (fun q => Ev (d + 1) 335 18 [(0, .ref XB), (1, .ref 0), (2, .ref 294), (3, .int q.1)] [] (uS L q.2) o) (fun r => o = (some (.int r.1), uS L r.2)) x → Ev (d + 1) 335 1039 [(0, .ref XB), (1, .ref 0), (2, .ref 294), (3, .int q.1)] [] (uS L q.2) o := by
  intro q x h o ho
  unfold gLaw_k25 at h
  refine Ev.seg D_335 [(.aload_n 1, 1), (.aload_n 0, 1), (.iload_n 3, 1), (.iconst 1, 1), (.iadd, 1)] (by decide +kernel) (j := 0) (pc' := 1044) (lv' := [(0, .ref XB), (1, .ref 0), (2, .ref 294), (3, .int q.1)]) (st' := [.int (q.1 + (1 : Int32)), .ref XB, .ref 0]) rfl ?_
  obtain ⟨x1, e1, h⟩ := bd h
  refine Ev.iald D_335 (by decide +kernel) (S_aIx (by rfl) (Nat.le_refl _) e1) ?_
  obtain ⟨p2, e2, h⟩ := bd h
  refine Ev.callv D_335 E_118 (by decide +kernel) C_11_118 0 [.int x1] (r := []) rfl (gd_o k_0 (by decide)) rfl (Nat.le_of_ble_eq_true rfl) (Nat.le_of_ble_eq_true rfl) (gL_total_ok (by omega)  e2) ?_
  refine Ev.seg D_335 [(.aload_n 2, 1), (.aload_n 0, 1), (.iload_n 3, 1), (.iconst 1, 1), (.iadd, 1)] (by decide +kernel) (j := 0) (pc' := 1053) (lv' := [(0, .ref XB), (1, .ref 0), (2, .ref 294), (3, .int q.1)]) (st' := [.int (q.1 + (1 : Int32)), .ref XB, .ref 294, .int p2]) rfl ?_
  obtain ⟨x3, e3, h⟩ := bd h
  refine Ev.iald D_335 (by decide +kernel) (S_aIx (by rfl) (Nat.le_refl _) e3) ?_
  obtain ⟨p4, e4, h⟩ := bd h
  refine Ev.callv D_335 E_249 (by decide +kernel) C_11_121 294 [.int x3] (r := [.int p2]) rfl (gd_o k_294 (by decide)) rfl (Nat.le_of_ble_eq_true rfl) (Nat.le_of_ble_eq_true rfl) (gM_total_ok (by omega)  e4) ?_
  refine Ev.icmp D_335 (c := .eq) (off := 1331) (by decide +kernel) (t := 2388) rfl (fun c5 => ?_) (fun c5 => ?_)
  · have c5 : p2 = p4.1 := of_decide_eq_true c5
    rw [if_pos c5] at h
    refine Ev.seg D_335 [(.iinc 3 6, 3), (.goto (-2373), 3)] (by decide +kernel) (j := 0) (pc' := 18) (lv' := [(3, .int (q.1 + (6 : Int32))), (0, .ref XB), (1, .ref 0), (2, .ref 294)]) (st' := []) rfl ?_
    cases h
    exact Ev.sub (lv' := [(0, .ref XB), (1, .ref 0), (2, .ref 294), (3, .int (q.1 + (6 : Int32)))]) (subL_cons rfl (subL_cons rfl (subL_cons rfl (subL_cons rfl subL_nil)))) ho
  · have c5 : ¬ p2 = p4.1 := of_decide_eq_false c5
    rw [if_neg c5] at h
    refine Ev.seg D_335 [(.iconst 0, 1)] (by decide +kernel) (j := 0) (pc' := 1061) (lv' := [(0, .ref XB), (1, .ref 0), (2, .ref 294), (3, .int q.1)]) (st' := [.int (0 : Int32)]) rfl ?_
    cases h
    obtain rfl : o = _ := ho
    exact Ev.zret D_335 (by decide) (by decide +kernel)
def gLaw_k26 (L : Nat) (q : Int32 × mT) : Option ((Int32 × mT) ⊕ (Int32 × mT)) :=
  (rdI (q.2.1 XB) L (q.1 + (1 : Int32))).bind fun x1 =>
  (gL_fleet x1 q.2).bind fun p2 =>
  (rdI (q.2.1 XB) L (q.1 + (1 : Int32))).bind fun x3 =>
  (gM_fleet x3 q.2).bind fun p4 =>
  if p2 = p4.1 then
    some (.inl (q.1 + (6 : Int32), p4.2))
  else
    some (.inr (((0 : Int32), p4.2)))
set_option maxRecDepth 8000 in
theorem gLaw_k26_ok {L d : Nat} (hd : 13 ≤ d + 1) : ∀ (q : Int32 × mT) (x : (Int32 × mT) ⊕ (Int32 × mT)), gLaw_k26 L q = some x → ∀ o, sK (fun q => Ev (d + 1) 335 18 [(0, .ref XB), (1, .ref 0), (2, .ref 294), (3, .int q.1)] [] (uS L q.2) o) (fun r => o = (some (.int r.1), uS L r.2)) x → Ev (d + 1) 335 1062 [(0, .ref XB), (1, .ref 0), (2, .ref 294), (3, .int q.1)] [] (uS L q.2) o := by
  intro q x h o ho
  unfold gLaw_k26 at h
  refine Ev.seg D_335 [(.aload_n 1, 1), (.aload_n 0, 1), (.iload_n 3, 1), (.iconst 1, 1), (.iadd, 1)] (by decide +kernel) (j := 0) (pc' := 1067) (lv' := [(0, .ref XB), (1, .ref 0), (2, .ref 294), (3, .int q.1)]) (st' := [.int (q.1 + (1 : Int32)), .ref XB, .ref 0]) rfl ?_
  obtain ⟨x1, e1, h⟩ := bd h
  refine Ev.iald D_335 (by decide +kernel) (S_aIx (by rfl) (Nat.le_refl _) e1) ?_
  obtain ⟨p2, e2, h⟩ := bd h
  refine Ev.callv D_335 E_119 (by decide +kernel) C_11_122 0 [.int x1] (r := []) rfl (gd_o k_0 (by decide)) rfl (Nat.le_of_ble_eq_true rfl) (Nat.le_of_ble_eq_true rfl) (gL_fleet_ok (by omega)  e2) ?_
  refine Ev.seg D_335 [(.aload_n 2, 1), (.aload_n 0, 1), (.iload_n 3, 1), (.iconst 1, 1), (.iadd, 1)] (by decide +kernel) (j := 0) (pc' := 1076) (lv' := [(0, .ref XB), (1, .ref 0), (2, .ref 294), (3, .int q.1)]) (st' := [.int (q.1 + (1 : Int32)), .ref XB, .ref 294, .int p2]) rfl ?_
  obtain ⟨x3, e3, h⟩ := bd h
  refine Ev.iald D_335 (by decide +kernel) (S_aIx (by rfl) (Nat.le_refl _) e3) ?_
  obtain ⟨p4, e4, h⟩ := bd h
  refine Ev.callv D_335 E_250 (by decide +kernel) C_11_125 294 [.int x3] (r := [.int p2]) rfl (gd_o k_294 (by decide)) rfl (Nat.le_of_ble_eq_true rfl) (Nat.le_of_ble_eq_true rfl) (gM_fleet_ok (by omega)  e4) ?_
  refine Ev.icmp D_335 (c := .eq) (off := 1308) (by decide +kernel) (t := 2388) rfl (fun c5 => ?_) (fun c5 => ?_)
  · have c5 : p2 = p4.1 := of_decide_eq_true c5
    rw [if_pos c5] at h
    refine Ev.seg D_335 [(.iinc 3 6, 3), (.goto (-2373), 3)] (by decide +kernel) (j := 0) (pc' := 18) (lv' := [(3, .int (q.1 + (6 : Int32))), (0, .ref XB), (1, .ref 0), (2, .ref 294)]) (st' := []) rfl ?_
    cases h
    exact Ev.sub (lv' := [(0, .ref XB), (1, .ref 0), (2, .ref 294), (3, .int (q.1 + (6 : Int32)))]) (subL_cons rfl (subL_cons rfl (subL_cons rfl (subL_cons rfl subL_nil)))) ho
  · have c5 : ¬ p2 = p4.1 := of_decide_eq_false c5
    rw [if_neg c5] at h
    refine Ev.seg D_335 [(.iconst 0, 1)] (by decide +kernel) (j := 0) (pc' := 1084) (lv' := [(0, .ref XB), (1, .ref 0), (2, .ref 294), (3, .int q.1)]) (st' := [.int (0 : Int32)]) rfl ?_
    cases h
    obtain rfl : o = _ := ho
    exact Ev.zret D_335 (by decide) (by decide +kernel)
def gLaw_k27 (L : Nat) (q : Int32 × mT) : Option ((Int32 × mT) ⊕ (Int32 × mT)) :=
  (rdI (q.2.1 XB) L (q.1 + (1 : Int32))).bind fun x1 =>
  (gL_gaze x1 q.2).bind fun p2 =>
  (rdI (q.2.1 XB) L (q.1 + (1 : Int32))).bind fun x3 =>
  (gM_gaze x3 q.2).bind fun p4 =>
  if p2 = p4.1 then
    some (.inl (q.1 + (6 : Int32), p4.2))
  else
    some (.inr (((0 : Int32), p4.2)))
set_option maxRecDepth 8000 in
theorem gLaw_k27_ok {L d : Nat} (hd : 13 ≤ d + 1) : ∀ (q : Int32 × mT) (x : (Int32 × mT) ⊕ (Int32 × mT)), gLaw_k27 L q = some x → ∀ o, sK (fun q => Ev (d + 1) 335 18 [(0, .ref XB), (1, .ref 0), (2, .ref 294), (3, .int q.1)] [] (uS L q.2) o) (fun r => o = (some (.int r.1), uS L r.2)) x → Ev (d + 1) 335 1085 [(0, .ref XB), (1, .ref 0), (2, .ref 294), (3, .int q.1)] [] (uS L q.2) o := by
  intro q x h o ho
  unfold gLaw_k27 at h
  refine Ev.seg D_335 [(.aload_n 1, 1), (.aload_n 0, 1), (.iload_n 3, 1), (.iconst 1, 1), (.iadd, 1)] (by decide +kernel) (j := 0) (pc' := 1090) (lv' := [(0, .ref XB), (1, .ref 0), (2, .ref 294), (3, .int q.1)]) (st' := [.int (q.1 + (1 : Int32)), .ref XB, .ref 0]) rfl ?_
  obtain ⟨x1, e1, h⟩ := bd h
  refine Ev.iald D_335 (by decide +kernel) (S_aIx (by rfl) (Nat.le_refl _) e1) ?_
  obtain ⟨p2, e2, h⟩ := bd h
  refine Ev.callv D_335 E_120 (by decide +kernel) C_11_126 0 [.int x1] (r := []) rfl (gd_o k_0 (by decide)) rfl (Nat.le_of_ble_eq_true rfl) (Nat.le_of_ble_eq_true rfl) (gL_gaze_ok (by omega)  e2) ?_
  refine Ev.seg D_335 [(.aload_n 2, 1), (.aload_n 0, 1), (.iload_n 3, 1), (.iconst 1, 1), (.iadd, 1)] (by decide +kernel) (j := 0) (pc' := 1099) (lv' := [(0, .ref XB), (1, .ref 0), (2, .ref 294), (3, .int q.1)]) (st' := [.int (q.1 + (1 : Int32)), .ref XB, .ref 294, .int p2]) rfl ?_
  obtain ⟨x3, e3, h⟩ := bd h
  refine Ev.iald D_335 (by decide +kernel) (S_aIx (by rfl) (Nat.le_refl _) e3) ?_
  obtain ⟨p4, e4, h⟩ := bd h
  refine Ev.callv D_335 E_251 (by decide +kernel) C_11_129 294 [.int x3] (r := [.int p2]) rfl (gd_o k_294 (by decide)) rfl (Nat.le_of_ble_eq_true rfl) (Nat.le_of_ble_eq_true rfl) (gM_gaze_ok (by omega)  e4) ?_
  refine Ev.icmp D_335 (c := .eq) (off := 1285) (by decide +kernel) (t := 2388) rfl (fun c5 => ?_) (fun c5 => ?_)
  · have c5 : p2 = p4.1 := of_decide_eq_true c5
    rw [if_pos c5] at h
    refine Ev.seg D_335 [(.iinc 3 6, 3), (.goto (-2373), 3)] (by decide +kernel) (j := 0) (pc' := 18) (lv' := [(3, .int (q.1 + (6 : Int32))), (0, .ref XB), (1, .ref 0), (2, .ref 294)]) (st' := []) rfl ?_
    cases h
    exact Ev.sub (lv' := [(0, .ref XB), (1, .ref 0), (2, .ref 294), (3, .int (q.1 + (6 : Int32)))]) (subL_cons rfl (subL_cons rfl (subL_cons rfl (subL_cons rfl subL_nil)))) ho
  · have c5 : ¬ p2 = p4.1 := of_decide_eq_false c5
    rw [if_neg c5] at h
    refine Ev.seg D_335 [(.iconst 0, 1)] (by decide +kernel) (j := 0) (pc' := 1107) (lv' := [(0, .ref XB), (1, .ref 0), (2, .ref 294), (3, .int q.1)]) (st' := [.int (0 : Int32)]) rfl ?_
    cases h
    obtain rfl : o = _ := ho
    exact Ev.zret D_335 (by decide) (by decide +kernel)
def gLaw_k28 (L : Nat) (q : Int32 × mT) : Option ((Int32 × mT) ⊕ (Int32 × mT)) :=
  (gL_faithful q.2).bind fun p1 =>
  (gM_faithful q.2).bind fun p2 =>
  if p1 = p2.1 then
    some (.inl (q.1 + (6 : Int32), p2.2))
  else
    some (.inr (((0 : Int32), p2.2)))
set_option maxRecDepth 8000 in
theorem gLaw_k28_ok {L d : Nat} (hd : 13 ≤ d + 1) : ∀ (q : Int32 × mT) (x : (Int32 × mT) ⊕ (Int32 × mT)), gLaw_k28 L q = some x → ∀ o, sK (fun q => Ev (d + 1) 335 18 [(0, .ref XB), (1, .ref 0), (2, .ref 294), (3, .int q.1)] [] (uS L q.2) o) (fun r => o = (some (.int r.1), uS L r.2)) x → Ev (d + 1) 335 1108 [(0, .ref XB), (1, .ref 0), (2, .ref 294), (3, .int q.1)] [] (uS L q.2) o := by
  intro q x h o ho
  unfold gLaw_k28 at h
  refine Ev.seg D_335 [(.aload_n 1, 1)] (by decide +kernel) (j := 0) (pc' := 1109) (lv' := [(0, .ref XB), (1, .ref 0), (2, .ref 294), (3, .int q.1)]) (st' := [.ref 0]) rfl ?_
  obtain ⟨p1, e1, h⟩ := bd h
  refine Ev.callv D_335 E_121 (by decide +kernel) C_11_130 0 [] (r := []) rfl (gd_o k_0 (by decide)) rfl (Nat.le_of_ble_eq_true rfl) (Nat.le_of_ble_eq_true rfl) (gL_faithful_ok (by omega)  e1) ?_
  refine Ev.seg D_335 [(.aload_n 2, 1)] (by decide +kernel) (j := 0) (pc' := 1113) (lv' := [(0, .ref XB), (1, .ref 0), (2, .ref 294), (3, .int q.1)]) (st' := [.ref 294, .int p1]) rfl ?_
  obtain ⟨p2, e2, h⟩ := bd h
  refine Ev.callv D_335 E_252 (by decide +kernel) C_11_133 294 [] (r := [.int p1]) rfl (gd_o k_294 (by decide)) rfl (Nat.le_of_ble_eq_true rfl) (Nat.le_of_ble_eq_true rfl) (gM_faithful_ok (by omega)  e2) ?_
  refine Ev.icmp D_335 (c := .eq) (off := 1272) (by decide +kernel) (t := 2388) rfl (fun c3 => ?_) (fun c3 => ?_)
  · have c3 : p1 = p2.1 := of_decide_eq_true c3
    rw [if_pos c3] at h
    refine Ev.seg D_335 [(.iinc 3 6, 3), (.goto (-2373), 3)] (by decide +kernel) (j := 0) (pc' := 18) (lv' := [(3, .int (q.1 + (6 : Int32))), (0, .ref XB), (1, .ref 0), (2, .ref 294)]) (st' := []) rfl ?_
    cases h
    exact Ev.sub (lv' := [(0, .ref XB), (1, .ref 0), (2, .ref 294), (3, .int (q.1 + (6 : Int32)))]) (subL_cons rfl (subL_cons rfl (subL_cons rfl (subL_cons rfl subL_nil)))) ho
  · have c3 : ¬ p1 = p2.1 := of_decide_eq_false c3
    rw [if_neg c3] at h
    refine Ev.seg D_335 [(.iconst 0, 1)] (by decide +kernel) (j := 0) (pc' := 1120) (lv' := [(0, .ref XB), (1, .ref 0), (2, .ref 294), (3, .int q.1)]) (st' := [.int (0 : Int32)]) rfl ?_
    cases h
    obtain rfl : o = _ := ho
    exact Ev.zret D_335 (by decide) (by decide +kernel)
def gLaw_k29 (L : Nat) (q : Int32 × mT) : Option ((Int32 × mT) ⊕ (Int32 × mT)) :=
  (rdI (q.2.1 XB) L (q.1 + (1 : Int32))).bind fun x1 =>
  (gL_unseen x1 q.2).bind fun p2 =>
  (rdI (q.2.1 XB) L (q.1 + (1 : Int32))).bind fun x3 =>
  (gM_unseen x3 q.2).bind fun p4 =>
  if p2 = p4.1 then
    some (.inl (q.1 + (6 : Int32), p4.2))
  else
    some (.inr (((0 : Int32), p4.2)))
set_option maxRecDepth 8000 in
theorem gLaw_k29_ok {L d : Nat} (hd : 13 ≤ d + 1) : ∀ (q : Int32 × mT) (x : (Int32 × mT) ⊕ (Int32 × mT)), gLaw_k29 L q = some x → ∀ o, sK (fun q => Ev (d + 1) 335 18 [(0, .ref XB), (1, .ref 0), (2, .ref 294), (3, .int q.1)] [] (uS L q.2) o) (fun r => o = (some (.int r.1), uS L r.2)) x → Ev (d + 1) 335 1121 [(0, .ref XB), (1, .ref 0), (2, .ref 294), (3, .int q.1)] [] (uS L q.2) o := by
  intro q x h o ho
  unfold gLaw_k29 at h
  refine Ev.seg D_335 [(.aload_n 1, 1), (.aload_n 0, 1), (.iload_n 3, 1), (.iconst 1, 1), (.iadd, 1)] (by decide +kernel) (j := 0) (pc' := 1126) (lv' := [(0, .ref XB), (1, .ref 0), (2, .ref 294), (3, .int q.1)]) (st' := [.int (q.1 + (1 : Int32)), .ref XB, .ref 0]) rfl ?_
  obtain ⟨x1, e1, h⟩ := bd h
  refine Ev.iald D_335 (by decide +kernel) (S_aIx (by rfl) (Nat.le_refl _) e1) ?_
  obtain ⟨p2, e2, h⟩ := bd h
  refine Ev.callv D_335 E_122 (by decide +kernel) C_11_134 0 [.int x1] (r := []) rfl (gd_o k_0 (by decide)) rfl (Nat.le_of_ble_eq_true rfl) (Nat.le_of_ble_eq_true rfl) (gL_unseen_ok (by omega)  e2) ?_
  refine Ev.seg D_335 [(.aload_n 2, 1), (.aload_n 0, 1), (.iload_n 3, 1), (.iconst 1, 1), (.iadd, 1)] (by decide +kernel) (j := 0) (pc' := 1135) (lv' := [(0, .ref XB), (1, .ref 0), (2, .ref 294), (3, .int q.1)]) (st' := [.int (q.1 + (1 : Int32)), .ref XB, .ref 294, .int p2]) rfl ?_
  obtain ⟨x3, e3, h⟩ := bd h
  refine Ev.iald D_335 (by decide +kernel) (S_aIx (by rfl) (Nat.le_refl _) e3) ?_
  obtain ⟨p4, e4, h⟩ := bd h
  refine Ev.callv D_335 E_253 (by decide +kernel) C_11_137 294 [.int x3] (r := [.int p2]) rfl (gd_o k_294 (by decide)) rfl (Nat.le_of_ble_eq_true rfl) (Nat.le_of_ble_eq_true rfl) (gM_unseen_ok (by omega)  e4) ?_
  refine Ev.icmp D_335 (c := .eq) (off := 1249) (by decide +kernel) (t := 2388) rfl (fun c5 => ?_) (fun c5 => ?_)
  · have c5 : p2 = p4.1 := of_decide_eq_true c5
    rw [if_pos c5] at h
    refine Ev.seg D_335 [(.iinc 3 6, 3), (.goto (-2373), 3)] (by decide +kernel) (j := 0) (pc' := 18) (lv' := [(3, .int (q.1 + (6 : Int32))), (0, .ref XB), (1, .ref 0), (2, .ref 294)]) (st' := []) rfl ?_
    cases h
    exact Ev.sub (lv' := [(0, .ref XB), (1, .ref 0), (2, .ref 294), (3, .int (q.1 + (6 : Int32)))]) (subL_cons rfl (subL_cons rfl (subL_cons rfl (subL_cons rfl subL_nil)))) ho
  · have c5 : ¬ p2 = p4.1 := of_decide_eq_false c5
    rw [if_neg c5] at h
    refine Ev.seg D_335 [(.iconst 0, 1)] (by decide +kernel) (j := 0) (pc' := 1143) (lv' := [(0, .ref XB), (1, .ref 0), (2, .ref 294), (3, .int q.1)]) (st' := [.int (0 : Int32)]) rfl ?_
    cases h
    obtain rfl : o = _ := ho
    exact Ev.zret D_335 (by decide) (by decide +kernel)
def gLaw_k30 (L : Nat) (q : Int32 × mT) : Option ((Int32 × mT) ⊕ (Int32 × mT)) :=
  (rdI (q.2.1 XB) L (q.1 + (1 : Int32))).bind fun x1 =>
  (gL_seers x1 q.2).bind fun p2 =>
  (rdI (q.2.1 XB) L (q.1 + (1 : Int32))).bind fun x3 =>
  (gM_seers x3 q.2).bind fun p4 =>
  if p2 = p4 then
    some (.inl (q.1 + (6 : Int32), q.2))
  else
    some (.inr (((0 : Int32), q.2)))
set_option maxRecDepth 8000 in
theorem gLaw_k30_ok {L d : Nat} (hd : 13 ≤ d + 1) : ∀ (q : Int32 × mT) (x : (Int32 × mT) ⊕ (Int32 × mT)), gLaw_k30 L q = some x → ∀ o, sK (fun q => Ev (d + 1) 335 18 [(0, .ref XB), (1, .ref 0), (2, .ref 294), (3, .int q.1)] [] (uS L q.2) o) (fun r => o = (some (.int r.1), uS L r.2)) x → Ev (d + 1) 335 1144 [(0, .ref XB), (1, .ref 0), (2, .ref 294), (3, .int q.1)] [] (uS L q.2) o := by
  intro q x h o ho
  unfold gLaw_k30 at h
  refine Ev.seg D_335 [(.aload_n 1, 1), (.aload_n 0, 1), (.iload_n 3, 1), (.iconst 1, 1), (.iadd, 1)] (by decide +kernel) (j := 0) (pc' := 1149) (lv' := [(0, .ref XB), (1, .ref 0), (2, .ref 294), (3, .int q.1)]) (st' := [.int (q.1 + (1 : Int32)), .ref XB, .ref 0]) rfl ?_
  obtain ⟨x1, e1, h⟩ := bd h
  refine Ev.iald D_335 (by decide +kernel) (S_aIx (by rfl) (Nat.le_refl _) e1) ?_
  obtain ⟨p2, e2, h⟩ := bd h
  refine Ev.callv D_335 E_123 (by decide +kernel) C_11_138 0 [.int x1] (r := []) rfl (gd_o k_0 (by decide)) rfl (Nat.le_of_ble_eq_true rfl) (Nat.le_of_ble_eq_true rfl) (gL_seers_ok (by omega)  e2) ?_
  refine Ev.seg D_335 [(.aload_n 2, 1), (.aload_n 0, 1), (.iload_n 3, 1), (.iconst 1, 1), (.iadd, 1)] (by decide +kernel) (j := 0) (pc' := 1158) (lv' := [(0, .ref XB), (1, .ref 0), (2, .ref 294), (3, .int q.1)]) (st' := [.int (q.1 + (1 : Int32)), .ref XB, .ref 294, .int p2]) rfl ?_
  obtain ⟨x3, e3, h⟩ := bd h
  refine Ev.iald D_335 (by decide +kernel) (S_aIx (by rfl) (Nat.le_refl _) e3) ?_
  obtain ⟨p4, e4, h⟩ := bd h
  refine Ev.callv D_335 E_254 (by decide +kernel) C_11_141 294 [.int x3] (r := [.int p2]) rfl (gd_o k_294 (by decide)) rfl (Nat.le_of_ble_eq_true rfl) (Nat.le_of_ble_eq_true rfl) (gM_seers_ok (by omega)  e4) ?_
  refine Ev.icmp D_335 (c := .eq) (off := 1226) (by decide +kernel) (t := 2388) rfl (fun c5 => ?_) (fun c5 => ?_)
  · have c5 : p2 = p4 := of_decide_eq_true c5
    rw [if_pos c5] at h
    refine Ev.seg D_335 [(.iinc 3 6, 3), (.goto (-2373), 3)] (by decide +kernel) (j := 0) (pc' := 18) (lv' := [(3, .int (q.1 + (6 : Int32))), (0, .ref XB), (1, .ref 0), (2, .ref 294)]) (st' := []) rfl ?_
    cases h
    exact Ev.sub (lv' := [(0, .ref XB), (1, .ref 0), (2, .ref 294), (3, .int (q.1 + (6 : Int32)))]) (subL_cons rfl (subL_cons rfl (subL_cons rfl (subL_cons rfl subL_nil)))) ho
  · have c5 : ¬ p2 = p4 := of_decide_eq_false c5
    rw [if_neg c5] at h
    refine Ev.seg D_335 [(.iconst 0, 1)] (by decide +kernel) (j := 0) (pc' := 1166) (lv' := [(0, .ref XB), (1, .ref 0), (2, .ref 294), (3, .int q.1)]) (st' := [.int (0 : Int32)]) rfl ?_
    cases h
    obtain rfl : o = _ := ho
    exact Ev.zret D_335 (by decide) (by decide +kernel)
def gLaw_k31 (L : Nat) (q : Int32 × mT) : Option ((Int32 × mT) ⊕ (Int32 × mT)) :=
  (rdI (q.2.1 XB) L (q.1 + (1 : Int32))).bind fun x1 =>
  (rdI (q.2.1 XB) L (q.1 + (2 : Int32))).bind fun x2 =>
  (gL_order x1 x2 q.2).bind fun p3 =>
  (rdI (q.2.1 XB) L (q.1 + (1 : Int32))).bind fun x4 =>
  (rdI (q.2.1 XB) L (q.1 + (2 : Int32))).bind fun x5 =>
  (gM_order x4 x5 q.2).bind fun p6 =>
  if p3 = p6.1 then
    some (.inl (q.1 + (6 : Int32), p6.2))
  else
    some (.inr (((0 : Int32), p6.2)))
set_option maxRecDepth 8000 in
theorem gLaw_k31_ok {L d : Nat} (hd : 13 ≤ d + 1) : ∀ (q : Int32 × mT) (x : (Int32 × mT) ⊕ (Int32 × mT)), gLaw_k31 L q = some x → ∀ o, sK (fun q => Ev (d + 1) 335 18 [(0, .ref XB), (1, .ref 0), (2, .ref 294), (3, .int q.1)] [] (uS L q.2) o) (fun r => o = (some (.int r.1), uS L r.2)) x → Ev (d + 1) 335 1167 [(0, .ref XB), (1, .ref 0), (2, .ref 294), (3, .int q.1)] [] (uS L q.2) o := by
  intro q x h o ho
  unfold gLaw_k31 at h
  refine Ev.seg D_335 [(.aload_n 1, 1), (.aload_n 0, 1), (.iload_n 3, 1), (.iconst 1, 1), (.iadd, 1)] (by decide +kernel) (j := 0) (pc' := 1172) (lv' := [(0, .ref XB), (1, .ref 0), (2, .ref 294), (3, .int q.1)]) (st' := [.int (q.1 + (1 : Int32)), .ref XB, .ref 0]) rfl ?_
  obtain ⟨x1, e1, h⟩ := bd h
  refine Ev.iald D_335 (by decide +kernel) (S_aIx (by rfl) (Nat.le_refl _) e1) ?_
  refine Ev.seg D_335 [(.aload_n 0, 1), (.iload_n 3, 1), (.iconst 2, 1), (.iadd, 1)] (by decide +kernel) (j := 0) (pc' := 1177) (lv' := [(0, .ref XB), (1, .ref 0), (2, .ref 294), (3, .int q.1)]) (st' := [.int (q.1 + (2 : Int32)), .ref XB, .int x1, .ref 0]) rfl ?_
  obtain ⟨x2, e2, h⟩ := bd h
  refine Ev.iald D_335 (by decide +kernel) (S_aIx (by rfl) (Nat.le_refl _) e2) ?_
  obtain ⟨p3, e3, h⟩ := bd h
  refine Ev.callv D_335 E_124 (by decide +kernel) C_11_142 0 [.int x1, .int x2] (r := []) rfl (gd_o k_0 (by decide)) rfl (Nat.le_of_ble_eq_true rfl) (Nat.le_of_ble_eq_true rfl) (gL_order_ok (by omega)  e3) ?_
  refine Ev.seg D_335 [(.aload_n 2, 1), (.aload_n 0, 1), (.iload_n 3, 1), (.iconst 1, 1), (.iadd, 1)] (by decide +kernel) (j := 0) (pc' := 1186) (lv' := [(0, .ref XB), (1, .ref 0), (2, .ref 294), (3, .int q.1)]) (st' := [.int (q.1 + (1 : Int32)), .ref XB, .ref 294, .int p3]) rfl ?_
  obtain ⟨x4, e4, h⟩ := bd h
  refine Ev.iald D_335 (by decide +kernel) (S_aIx (by rfl) (Nat.le_refl _) e4) ?_
  refine Ev.seg D_335 [(.aload_n 0, 1), (.iload_n 3, 1), (.iconst 2, 1), (.iadd, 1)] (by decide +kernel) (j := 0) (pc' := 1191) (lv' := [(0, .ref XB), (1, .ref 0), (2, .ref 294), (3, .int q.1)]) (st' := [.int (q.1 + (2 : Int32)), .ref XB, .int x4, .ref 294, .int p3]) rfl ?_
  obtain ⟨x5, e5, h⟩ := bd h
  refine Ev.iald D_335 (by decide +kernel) (S_aIx (by rfl) (Nat.le_refl _) e5) ?_
  obtain ⟨p6, e6, h⟩ := bd h
  refine Ev.callv D_335 E_257 (by decide +kernel) C_11_145 294 [.int x4, .int x5] (r := [.int p3]) rfl (gd_o k_294 (by decide)) rfl (Nat.le_of_ble_eq_true rfl) (Nat.le_of_ble_eq_true rfl) (gM_order_ok (by omega)  e6) ?_
  refine Ev.icmp D_335 (c := .eq) (off := 1193) (by decide +kernel) (t := 2388) rfl (fun c7 => ?_) (fun c7 => ?_)
  · have c7 : p3 = p6.1 := of_decide_eq_true c7
    rw [if_pos c7] at h
    refine Ev.seg D_335 [(.iinc 3 6, 3), (.goto (-2373), 3)] (by decide +kernel) (j := 0) (pc' := 18) (lv' := [(3, .int (q.1 + (6 : Int32))), (0, .ref XB), (1, .ref 0), (2, .ref 294)]) (st' := []) rfl ?_
    cases h
    exact Ev.sub (lv' := [(0, .ref XB), (1, .ref 0), (2, .ref 294), (3, .int (q.1 + (6 : Int32)))]) (subL_cons rfl (subL_cons rfl (subL_cons rfl (subL_cons rfl subL_nil)))) ho
  · have c7 : ¬ p3 = p6.1 := of_decide_eq_false c7
    rw [if_neg c7] at h
    refine Ev.seg D_335 [(.iconst 0, 1)] (by decide +kernel) (j := 0) (pc' := 1199) (lv' := [(0, .ref XB), (1, .ref 0), (2, .ref 294), (3, .int q.1)]) (st' := [.int (0 : Int32)]) rfl ?_
    cases h
    obtain rfl : o = _ := ho
    exact Ev.zret D_335 (by decide) (by decide +kernel)
def gLaw_k32 (L : Nat) (q : Int32 × mT) : Option ((Int32 × mT) ⊕ (Int32 × mT)) :=
  (rdI (q.2.1 XB) L (q.1 + (1 : Int32))).bind fun x1 =>
  (rdI (q.2.1 XB) L (q.1 + (2 : Int32))).bind fun x2 =>
  (gL_even x1 x2 q.2).bind fun p3 =>
  (rdI (q.2.1 XB) L (q.1 + (1 : Int32))).bind fun x4 =>
  (rdI (q.2.1 XB) L (q.1 + (2 : Int32))).bind fun x5 =>
  (gM_even x4 x5 q.2).bind fun p6 =>
  if p3 = p6.1 then
    some (.inl (q.1 + (6 : Int32), p6.2))
  else
    some (.inr (((0 : Int32), p6.2)))
set_option maxRecDepth 8000 in
theorem gLaw_k32_ok {L d : Nat} (hd : 13 ≤ d + 1) : ∀ (q : Int32 × mT) (x : (Int32 × mT) ⊕ (Int32 × mT)), gLaw_k32 L q = some x → ∀ o, sK (fun q => Ev (d + 1) 335 18 [(0, .ref XB), (1, .ref 0), (2, .ref 294), (3, .int q.1)] [] (uS L q.2) o) (fun r => o = (some (.int r.1), uS L r.2)) x → Ev (d + 1) 335 1200 [(0, .ref XB), (1, .ref 0), (2, .ref 294), (3, .int q.1)] [] (uS L q.2) o := by
  intro q x h o ho
  unfold gLaw_k32 at h
  refine Ev.seg D_335 [(.aload_n 1, 1), (.aload_n 0, 1), (.iload_n 3, 1), (.iconst 1, 1), (.iadd, 1)] (by decide +kernel) (j := 0) (pc' := 1205) (lv' := [(0, .ref XB), (1, .ref 0), (2, .ref 294), (3, .int q.1)]) (st' := [.int (q.1 + (1 : Int32)), .ref XB, .ref 0]) rfl ?_
  obtain ⟨x1, e1, h⟩ := bd h
  refine Ev.iald D_335 (by decide +kernel) (S_aIx (by rfl) (Nat.le_refl _) e1) ?_
  refine Ev.seg D_335 [(.aload_n 0, 1), (.iload_n 3, 1), (.iconst 2, 1), (.iadd, 1)] (by decide +kernel) (j := 0) (pc' := 1210) (lv' := [(0, .ref XB), (1, .ref 0), (2, .ref 294), (3, .int q.1)]) (st' := [.int (q.1 + (2 : Int32)), .ref XB, .int x1, .ref 0]) rfl ?_
  obtain ⟨x2, e2, h⟩ := bd h
  refine Ev.iald D_335 (by decide +kernel) (S_aIx (by rfl) (Nat.le_refl _) e2) ?_
  obtain ⟨p3, e3, h⟩ := bd h
  refine Ev.callv D_335 E_125 (by decide +kernel) C_11_146 0 [.int x1, .int x2] (r := []) rfl (gd_o k_0 (by decide)) rfl (Nat.le_of_ble_eq_true rfl) (Nat.le_of_ble_eq_true rfl) (gL_even_ok (by omega)  e3) ?_
  refine Ev.seg D_335 [(.aload_n 2, 1), (.aload_n 0, 1), (.iload_n 3, 1), (.iconst 1, 1), (.iadd, 1)] (by decide +kernel) (j := 0) (pc' := 1219) (lv' := [(0, .ref XB), (1, .ref 0), (2, .ref 294), (3, .int q.1)]) (st' := [.int (q.1 + (1 : Int32)), .ref XB, .ref 294, .int p3]) rfl ?_
  obtain ⟨x4, e4, h⟩ := bd h
  refine Ev.iald D_335 (by decide +kernel) (S_aIx (by rfl) (Nat.le_refl _) e4) ?_
  refine Ev.seg D_335 [(.aload_n 0, 1), (.iload_n 3, 1), (.iconst 2, 1), (.iadd, 1)] (by decide +kernel) (j := 0) (pc' := 1224) (lv' := [(0, .ref XB), (1, .ref 0), (2, .ref 294), (3, .int q.1)]) (st' := [.int (q.1 + (2 : Int32)), .ref XB, .int x4, .ref 294, .int p3]) rfl ?_
  obtain ⟨x5, e5, h⟩ := bd h
  refine Ev.iald D_335 (by decide +kernel) (S_aIx (by rfl) (Nat.le_refl _) e5) ?_
  obtain ⟨p6, e6, h⟩ := bd h
  refine Ev.callv D_335 E_258 (by decide +kernel) C_11_149 294 [.int x4, .int x5] (r := [.int p3]) rfl (gd_o k_294 (by decide)) rfl (Nat.le_of_ble_eq_true rfl) (Nat.le_of_ble_eq_true rfl) (gM_even_ok (by omega)  e6) ?_
  refine Ev.icmp D_335 (c := .eq) (off := 1160) (by decide +kernel) (t := 2388) rfl (fun c7 => ?_) (fun c7 => ?_)
  · have c7 : p3 = p6.1 := of_decide_eq_true c7
    rw [if_pos c7] at h
    refine Ev.seg D_335 [(.iinc 3 6, 3), (.goto (-2373), 3)] (by decide +kernel) (j := 0) (pc' := 18) (lv' := [(3, .int (q.1 + (6 : Int32))), (0, .ref XB), (1, .ref 0), (2, .ref 294)]) (st' := []) rfl ?_
    cases h
    exact Ev.sub (lv' := [(0, .ref XB), (1, .ref 0), (2, .ref 294), (3, .int (q.1 + (6 : Int32)))]) (subL_cons rfl (subL_cons rfl (subL_cons rfl (subL_cons rfl subL_nil)))) ho
  · have c7 : ¬ p3 = p6.1 := of_decide_eq_false c7
    rw [if_neg c7] at h
    refine Ev.seg D_335 [(.iconst 0, 1)] (by decide +kernel) (j := 0) (pc' := 1232) (lv' := [(0, .ref XB), (1, .ref 0), (2, .ref 294), (3, .int q.1)]) (st' := [.int (0 : Int32)]) rfl ?_
    cases h
    obtain rfl : o = _ := ho
    exact Ev.zret D_335 (by decide) (by decide +kernel)
def gLaw_k33 (L : Nat) (q : Int32 × mT) : Option ((Int32 × mT) ⊕ (Int32 × mT)) :=
  (rdI (q.2.1 XB) L (q.1 + (1 : Int32))).bind fun x1 =>
  (rdI (q.2.1 XB) L (q.1 + (2 : Int32))).bind fun x2 =>
  (gL_passes x1 x2 q.2).bind fun p3 =>
  (rdI (q.2.1 XB) L (q.1 + (1 : Int32))).bind fun x4 =>
  (rdI (q.2.1 XB) L (q.1 + (2 : Int32))).bind fun x5 =>
  (gM_passes x4 x5 q.2).bind fun p6 =>
  if p3 = p6.1 then
    some (.inl (q.1 + (6 : Int32), p6.2))
  else
    some (.inr (((0 : Int32), p6.2)))
set_option maxRecDepth 8000 in
theorem gLaw_k33_ok {L d : Nat} (hd : 13 ≤ d + 1) : ∀ (q : Int32 × mT) (x : (Int32 × mT) ⊕ (Int32 × mT)), gLaw_k33 L q = some x → ∀ o, sK (fun q => Ev (d + 1) 335 18 [(0, .ref XB), (1, .ref 0), (2, .ref 294), (3, .int q.1)] [] (uS L q.2) o) (fun r => o = (some (.int r.1), uS L r.2)) x → Ev (d + 1) 335 1233 [(0, .ref XB), (1, .ref 0), (2, .ref 294), (3, .int q.1)] [] (uS L q.2) o := by
  intro q x h o ho
  unfold gLaw_k33 at h
  refine Ev.seg D_335 [(.aload_n 1, 1), (.aload_n 0, 1), (.iload_n 3, 1), (.iconst 1, 1), (.iadd, 1)] (by decide +kernel) (j := 0) (pc' := 1238) (lv' := [(0, .ref XB), (1, .ref 0), (2, .ref 294), (3, .int q.1)]) (st' := [.int (q.1 + (1 : Int32)), .ref XB, .ref 0]) rfl ?_
  obtain ⟨x1, e1, h⟩ := bd h
  refine Ev.iald D_335 (by decide +kernel) (S_aIx (by rfl) (Nat.le_refl _) e1) ?_
  refine Ev.seg D_335 [(.aload_n 0, 1), (.iload_n 3, 1), (.iconst 2, 1), (.iadd, 1)] (by decide +kernel) (j := 0) (pc' := 1243) (lv' := [(0, .ref XB), (1, .ref 0), (2, .ref 294), (3, .int q.1)]) (st' := [.int (q.1 + (2 : Int32)), .ref XB, .int x1, .ref 0]) rfl ?_
  obtain ⟨x2, e2, h⟩ := bd h
  refine Ev.iald D_335 (by decide +kernel) (S_aIx (by rfl) (Nat.le_refl _) e2) ?_
  obtain ⟨p3, e3, h⟩ := bd h
  refine Ev.callv D_335 E_126 (by decide +kernel) C_11_150 0 [.int x1, .int x2] (r := []) rfl (gd_o k_0 (by decide)) rfl (Nat.le_of_ble_eq_true rfl) (Nat.le_of_ble_eq_true rfl) (gL_passes_ok (by omega)  e3) ?_
  refine Ev.seg D_335 [(.aload_n 2, 1), (.aload_n 0, 1), (.iload_n 3, 1), (.iconst 1, 1), (.iadd, 1)] (by decide +kernel) (j := 0) (pc' := 1252) (lv' := [(0, .ref XB), (1, .ref 0), (2, .ref 294), (3, .int q.1)]) (st' := [.int (q.1 + (1 : Int32)), .ref XB, .ref 294, .int p3]) rfl ?_
  obtain ⟨x4, e4, h⟩ := bd h
  refine Ev.iald D_335 (by decide +kernel) (S_aIx (by rfl) (Nat.le_refl _) e4) ?_
  refine Ev.seg D_335 [(.aload_n 0, 1), (.iload_n 3, 1), (.iconst 2, 1), (.iadd, 1)] (by decide +kernel) (j := 0) (pc' := 1257) (lv' := [(0, .ref XB), (1, .ref 0), (2, .ref 294), (3, .int q.1)]) (st' := [.int (q.1 + (2 : Int32)), .ref XB, .int x4, .ref 294, .int p3]) rfl ?_
  obtain ⟨x5, e5, h⟩ := bd h
  refine Ev.iald D_335 (by decide +kernel) (S_aIx (by rfl) (Nat.le_refl _) e5) ?_
  obtain ⟨p6, e6, h⟩ := bd h
  refine Ev.callv D_335 E_259 (by decide +kernel) C_11_153 294 [.int x4, .int x5] (r := [.int p3]) rfl (gd_o k_294 (by decide)) rfl (Nat.le_of_ble_eq_true rfl) (Nat.le_of_ble_eq_true rfl) (gM_passes_ok (by omega)  e6) ?_
  refine Ev.icmp D_335 (c := .eq) (off := 1127) (by decide +kernel) (t := 2388) rfl (fun c7 => ?_) (fun c7 => ?_)
  · have c7 : p3 = p6.1 := of_decide_eq_true c7
    rw [if_pos c7] at h
    refine Ev.seg D_335 [(.iinc 3 6, 3), (.goto (-2373), 3)] (by decide +kernel) (j := 0) (pc' := 18) (lv' := [(3, .int (q.1 + (6 : Int32))), (0, .ref XB), (1, .ref 0), (2, .ref 294)]) (st' := []) rfl ?_
    cases h
    exact Ev.sub (lv' := [(0, .ref XB), (1, .ref 0), (2, .ref 294), (3, .int (q.1 + (6 : Int32)))]) (subL_cons rfl (subL_cons rfl (subL_cons rfl (subL_cons rfl subL_nil)))) ho
  · have c7 : ¬ p3 = p6.1 := of_decide_eq_false c7
    rw [if_neg c7] at h
    refine Ev.seg D_335 [(.iconst 0, 1)] (by decide +kernel) (j := 0) (pc' := 1265) (lv' := [(0, .ref XB), (1, .ref 0), (2, .ref 294), (3, .int q.1)]) (st' := [.int (0 : Int32)]) rfl ?_
    cases h
    obtain rfl : o = _ := ho
    exact Ev.zret D_335 (by decide) (by decide +kernel)
def gLaw_k34 (L : Nat) (q : Int32 × mT) : Option ((Int32 × mT) ⊕ (Int32 × mT)) :=
  (rdI (q.2.1 XB) L (q.1 + (1 : Int32))).bind fun x1 =>
  (gL_arrived x1 q.2).bind fun p2 =>
  (rdI (q.2.1 XB) L (q.1 + (1 : Int32))).bind fun x3 =>
  (gM_arrived x3 q.2).bind fun p4 =>
  if p2 = p4.1 then
    some (.inl (q.1 + (6 : Int32), p4.2))
  else
    some (.inr (((0 : Int32), p4.2)))
set_option maxRecDepth 8000 in
theorem gLaw_k34_ok {L d : Nat} (hd : 13 ≤ d + 1) : ∀ (q : Int32 × mT) (x : (Int32 × mT) ⊕ (Int32 × mT)), gLaw_k34 L q = some x → ∀ o, sK (fun q => Ev (d + 1) 335 18 [(0, .ref XB), (1, .ref 0), (2, .ref 294), (3, .int q.1)] [] (uS L q.2) o) (fun r => o = (some (.int r.1), uS L r.2)) x → Ev (d + 1) 335 1266 [(0, .ref XB), (1, .ref 0), (2, .ref 294), (3, .int q.1)] [] (uS L q.2) o := by
  intro q x h o ho
  unfold gLaw_k34 at h
  refine Ev.seg D_335 [(.aload_n 1, 1), (.aload_n 0, 1), (.iload_n 3, 1), (.iconst 1, 1), (.iadd, 1)] (by decide +kernel) (j := 0) (pc' := 1271) (lv' := [(0, .ref XB), (1, .ref 0), (2, .ref 294), (3, .int q.1)]) (st' := [.int (q.1 + (1 : Int32)), .ref XB, .ref 0]) rfl ?_
  obtain ⟨x1, e1, h⟩ := bd h
  refine Ev.iald D_335 (by decide +kernel) (S_aIx (by rfl) (Nat.le_refl _) e1) ?_
  obtain ⟨p2, e2, h⟩ := bd h
  refine Ev.callv D_335 E_127 (by decide +kernel) C_11_154 0 [.int x1] (r := []) rfl (gd_o k_0 (by decide)) rfl (Nat.le_of_ble_eq_true rfl) (Nat.le_of_ble_eq_true rfl) (gL_arrived_ok (by omega)  e2) ?_
  refine Ev.seg D_335 [(.aload_n 2, 1), (.aload_n 0, 1), (.iload_n 3, 1), (.iconst 1, 1), (.iadd, 1)] (by decide +kernel) (j := 0) (pc' := 1280) (lv' := [(0, .ref XB), (1, .ref 0), (2, .ref 294), (3, .int q.1)]) (st' := [.int (q.1 + (1 : Int32)), .ref XB, .ref 294, .int p2]) rfl ?_
  obtain ⟨x3, e3, h⟩ := bd h
  refine Ev.iald D_335 (by decide +kernel) (S_aIx (by rfl) (Nat.le_refl _) e3) ?_
  obtain ⟨p4, e4, h⟩ := bd h
  refine Ev.callv D_335 E_260 (by decide +kernel) C_11_157 294 [.int x3] (r := [.int p2]) rfl (gd_o k_294 (by decide)) rfl (Nat.le_of_ble_eq_true rfl) (Nat.le_of_ble_eq_true rfl) (gM_arrived_ok (by omega)  e4) ?_
  refine Ev.icmp D_335 (c := .eq) (off := 1104) (by decide +kernel) (t := 2388) rfl (fun c5 => ?_) (fun c5 => ?_)
  · have c5 : p2 = p4.1 := of_decide_eq_true c5
    rw [if_pos c5] at h
    refine Ev.seg D_335 [(.iinc 3 6, 3), (.goto (-2373), 3)] (by decide +kernel) (j := 0) (pc' := 18) (lv' := [(3, .int (q.1 + (6 : Int32))), (0, .ref XB), (1, .ref 0), (2, .ref 294)]) (st' := []) rfl ?_
    cases h
    exact Ev.sub (lv' := [(0, .ref XB), (1, .ref 0), (2, .ref 294), (3, .int (q.1 + (6 : Int32)))]) (subL_cons rfl (subL_cons rfl (subL_cons rfl (subL_cons rfl subL_nil)))) ho
  · have c5 : ¬ p2 = p4.1 := of_decide_eq_false c5
    rw [if_neg c5] at h
    refine Ev.seg D_335 [(.iconst 0, 1)] (by decide +kernel) (j := 0) (pc' := 1288) (lv' := [(0, .ref XB), (1, .ref 0), (2, .ref 294), (3, .int q.1)]) (st' := [.int (0 : Int32)]) rfl ?_
    cases h
    obtain rfl : o = _ := ho
    exact Ev.zret D_335 (by decide) (by decide +kernel)
def gLaw_k35 (L : Nat) (q : Int32 × mT) : Option ((Int32 × mT) ⊕ (Int32 × mT)) :=
  (gL_calmest q.2).bind fun p1 =>
  (gM_calmest q.2).bind fun p2 =>
  if p1 = p2.1 then
    some (.inl (q.1 + (6 : Int32), p2.2))
  else
    some (.inr (((0 : Int32), p2.2)))
set_option maxRecDepth 8000 in
theorem gLaw_k35_ok {L d : Nat} (hd : 13 ≤ d + 1) : ∀ (q : Int32 × mT) (x : (Int32 × mT) ⊕ (Int32 × mT)), gLaw_k35 L q = some x → ∀ o, sK (fun q => Ev (d + 1) 335 18 [(0, .ref XB), (1, .ref 0), (2, .ref 294), (3, .int q.1)] [] (uS L q.2) o) (fun r => o = (some (.int r.1), uS L r.2)) x → Ev (d + 1) 335 1289 [(0, .ref XB), (1, .ref 0), (2, .ref 294), (3, .int q.1)] [] (uS L q.2) o := by
  intro q x h o ho
  unfold gLaw_k35 at h
  refine Ev.seg D_335 [(.aload_n 1, 1)] (by decide +kernel) (j := 0) (pc' := 1290) (lv' := [(0, .ref XB), (1, .ref 0), (2, .ref 294), (3, .int q.1)]) (st' := [.ref 0]) rfl ?_
  obtain ⟨p1, e1, h⟩ := bd h
  refine Ev.callv D_335 E_128 (by decide +kernel) C_11_158 0 [] (r := []) rfl (gd_o k_0 (by decide)) rfl (Nat.le_of_ble_eq_true rfl) (Nat.le_of_ble_eq_true rfl) (gL_calmest_ok (by omega)  e1) ?_
  refine Ev.seg D_335 [(.aload_n 2, 1)] (by decide +kernel) (j := 0) (pc' := 1294) (lv' := [(0, .ref XB), (1, .ref 0), (2, .ref 294), (3, .int q.1)]) (st' := [.ref 294, .int p1]) rfl ?_
  obtain ⟨p2, e2, h⟩ := bd h
  refine Ev.callv D_335 E_261 (by decide +kernel) C_11_161 294 [] (r := [.int p1]) rfl (gd_o k_294 (by decide)) rfl (Nat.le_of_ble_eq_true rfl) (Nat.le_of_ble_eq_true rfl) (gM_calmest_ok (by omega)  e2) ?_
  refine Ev.icmp D_335 (c := .eq) (off := 1091) (by decide +kernel) (t := 2388) rfl (fun c3 => ?_) (fun c3 => ?_)
  · have c3 : p1 = p2.1 := of_decide_eq_true c3
    rw [if_pos c3] at h
    refine Ev.seg D_335 [(.iinc 3 6, 3), (.goto (-2373), 3)] (by decide +kernel) (j := 0) (pc' := 18) (lv' := [(3, .int (q.1 + (6 : Int32))), (0, .ref XB), (1, .ref 0), (2, .ref 294)]) (st' := []) rfl ?_
    cases h
    exact Ev.sub (lv' := [(0, .ref XB), (1, .ref 0), (2, .ref 294), (3, .int (q.1 + (6 : Int32)))]) (subL_cons rfl (subL_cons rfl (subL_cons rfl (subL_cons rfl subL_nil)))) ho
  · have c3 : ¬ p1 = p2.1 := of_decide_eq_false c3
    rw [if_neg c3] at h
    refine Ev.seg D_335 [(.iconst 0, 1)] (by decide +kernel) (j := 0) (pc' := 1301) (lv' := [(0, .ref XB), (1, .ref 0), (2, .ref 294), (3, .int q.1)]) (st' := [.int (0 : Int32)]) rfl ?_
    cases h
    obtain rfl : o = _ := ho
    exact Ev.zret D_335 (by decide) (by decide +kernel)
def gLaw_k36 (L : Nat) (q : Int32 × mT) : Option ((Int32 × mT) ⊕ (Int32 × mT)) :=
  (rdI (q.2.1 XB) L (q.1 + (1 : Int32))).bind fun x1 =>
  (gL_clear x1 q.2).bind fun p2 =>
  (rdI (p2.2.1 XB) L (q.1 + (1 : Int32))).bind fun x3 =>
  (gM_clear x3 p2.2).bind fun p4 =>
  if p2.1 = p4.1 then
    some (.inl (q.1 + (6 : Int32), p4.2))
  else
    some (.inr (((0 : Int32), p4.2)))
set_option maxRecDepth 8000 in
theorem gLaw_k36_ok {L d : Nat} (hd : 13 ≤ d + 1) : ∀ (q : Int32 × mT) (x : (Int32 × mT) ⊕ (Int32 × mT)), gLaw_k36 L q = some x → ∀ o, sK (fun q => Ev (d + 1) 335 18 [(0, .ref XB), (1, .ref 0), (2, .ref 294), (3, .int q.1)] [] (uS L q.2) o) (fun r => o = (some (.int r.1), uS L r.2)) x → Ev (d + 1) 335 1302 [(0, .ref XB), (1, .ref 0), (2, .ref 294), (3, .int q.1)] [] (uS L q.2) o := by
  intro q x h o ho
  unfold gLaw_k36 at h
  refine Ev.seg D_335 [(.aload_n 1, 1), (.aload_n 0, 1), (.iload_n 3, 1), (.iconst 1, 1), (.iadd, 1)] (by decide +kernel) (j := 0) (pc' := 1307) (lv' := [(0, .ref XB), (1, .ref 0), (2, .ref 294), (3, .int q.1)]) (st' := [.int (q.1 + (1 : Int32)), .ref XB, .ref 0]) rfl ?_
  obtain ⟨x1, e1, h⟩ := bd h
  refine Ev.iald D_335 (by decide +kernel) (S_aIx (by rfl) (Nat.le_refl _) e1) ?_
  obtain ⟨p2, e2, h⟩ := bd h
  refine Ev.callv D_335 E_129 (by decide +kernel) C_11_162 0 [.int x1] (r := []) rfl (gd_o k_0 (by decide)) rfl (Nat.le_of_ble_eq_true rfl) (Nat.le_of_ble_eq_true rfl) (gL_clear_ok (by omega)  e2) ?_
  refine Ev.seg D_335 [(.aload_n 2, 1), (.aload_n 0, 1), (.iload_n 3, 1), (.iconst 1, 1), (.iadd, 1)] (by decide +kernel) (j := 0) (pc' := 1316) (lv' := [(0, .ref XB), (1, .ref 0), (2, .ref 294), (3, .int q.1)]) (st' := [.int (q.1 + (1 : Int32)), .ref XB, .ref 294, .int p2.1]) rfl ?_
  obtain ⟨x3, e3, h⟩ := bd h
  refine Ev.iald D_335 (by decide +kernel) (S_aIx (by rfl) (Nat.le_refl _) e3) ?_
  obtain ⟨p4, e4, h⟩ := bd h
  refine Ev.callv D_335 E_263 (by decide +kernel) C_11_165 294 [.int x3] (r := [.int p2.1]) rfl (gd_o k_294 (by decide)) rfl (Nat.le_of_ble_eq_true rfl) (Nat.le_of_ble_eq_true rfl) (gM_clear_ok (by omega)  e4) ?_
  refine Ev.icmp D_335 (c := .eq) (off := 1068) (by decide +kernel) (t := 2388) rfl (fun c5 => ?_) (fun c5 => ?_)
  · have c5 : p2.1 = p4.1 := of_decide_eq_true c5
    rw [if_pos c5] at h
    refine Ev.seg D_335 [(.iinc 3 6, 3), (.goto (-2373), 3)] (by decide +kernel) (j := 0) (pc' := 18) (lv' := [(3, .int (q.1 + (6 : Int32))), (0, .ref XB), (1, .ref 0), (2, .ref 294)]) (st' := []) rfl ?_
    cases h
    exact Ev.sub (lv' := [(0, .ref XB), (1, .ref 0), (2, .ref 294), (3, .int (q.1 + (6 : Int32)))]) (subL_cons rfl (subL_cons rfl (subL_cons rfl (subL_cons rfl subL_nil)))) ho
  · have c5 : ¬ p2.1 = p4.1 := of_decide_eq_false c5
    rw [if_neg c5] at h
    refine Ev.seg D_335 [(.iconst 0, 1)] (by decide +kernel) (j := 0) (pc' := 1324) (lv' := [(0, .ref XB), (1, .ref 0), (2, .ref 294), (3, .int q.1)]) (st' := [.int (0 : Int32)]) rfl ?_
    cases h
    obtain rfl : o = _ := ho
    exact Ev.zret D_335 (by decide) (by decide +kernel)
def gLaw_k37 (L : Nat) (q : Int32 × mT) : Option ((Int32 × mT) ⊕ (Int32 × mT)) :=
  (gL_key q.2).bind fun p1 =>
  (gM_key p1.2).bind fun p2 =>
  if p1.1 = p2.1 then
    some (.inl (q.1 + (6 : Int32), p2.2))
  else
    some (.inr (((0 : Int32), p2.2)))
set_option maxRecDepth 8000 in
theorem gLaw_k37_ok {L d : Nat} (hd : 13 ≤ d + 1) : ∀ (q : Int32 × mT) (x : (Int32 × mT) ⊕ (Int32 × mT)), gLaw_k37 L q = some x → ∀ o, sK (fun q => Ev (d + 1) 335 18 [(0, .ref XB), (1, .ref 0), (2, .ref 294), (3, .int q.1)] [] (uS L q.2) o) (fun r => o = (some (.int r.1), uS L r.2)) x → Ev (d + 1) 335 1325 [(0, .ref XB), (1, .ref 0), (2, .ref 294), (3, .int q.1)] [] (uS L q.2) o := by
  intro q x h o ho
  unfold gLaw_k37 at h
  refine Ev.seg D_335 [(.aload_n 1, 1)] (by decide +kernel) (j := 0) (pc' := 1326) (lv' := [(0, .ref XB), (1, .ref 0), (2, .ref 294), (3, .int q.1)]) (st' := [.ref 0]) rfl ?_
  obtain ⟨p1, e1, h⟩ := bd h
  refine Ev.callv D_335 E_130 (by decide +kernel) C_11_166 0 [] (r := []) rfl (gd_o k_0 (by decide)) rfl (Nat.le_of_ble_eq_true rfl) (Nat.le_of_ble_eq_true rfl) (gL_key_ok (by omega)  e1) ?_
  refine Ev.seg D_335 [(.aload_n 2, 1)] (by decide +kernel) (j := 0) (pc' := 1330) (lv' := [(0, .ref XB), (1, .ref 0), (2, .ref 294), (3, .int q.1)]) (st' := [.ref 294, .int p1.1]) rfl ?_
  obtain ⟨p2, e2, h⟩ := bd h
  refine Ev.callv D_335 E_264 (by decide +kernel) C_11_169 294 [] (r := [.int p1.1]) rfl (gd_o k_294 (by decide)) rfl (Nat.le_of_ble_eq_true rfl) (Nat.le_of_ble_eq_true rfl) (gM_key_ok (by omega)  e2) ?_
  refine Ev.icmp D_335 (c := .eq) (off := 1055) (by decide +kernel) (t := 2388) rfl (fun c3 => ?_) (fun c3 => ?_)
  · have c3 : p1.1 = p2.1 := of_decide_eq_true c3
    rw [if_pos c3] at h
    refine Ev.seg D_335 [(.iinc 3 6, 3), (.goto (-2373), 3)] (by decide +kernel) (j := 0) (pc' := 18) (lv' := [(3, .int (q.1 + (6 : Int32))), (0, .ref XB), (1, .ref 0), (2, .ref 294)]) (st' := []) rfl ?_
    cases h
    exact Ev.sub (lv' := [(0, .ref XB), (1, .ref 0), (2, .ref 294), (3, .int (q.1 + (6 : Int32)))]) (subL_cons rfl (subL_cons rfl (subL_cons rfl (subL_cons rfl subL_nil)))) ho
  · have c3 : ¬ p1.1 = p2.1 := of_decide_eq_false c3
    rw [if_neg c3] at h
    refine Ev.seg D_335 [(.iconst 0, 1)] (by decide +kernel) (j := 0) (pc' := 1337) (lv' := [(0, .ref XB), (1, .ref 0), (2, .ref 294), (3, .int q.1)]) (st' := [.int (0 : Int32)]) rfl ?_
    cases h
    obtain rfl : o = _ := ho
    exact Ev.zret D_335 (by decide) (by decide +kernel)
def gLaw_k38 (L : Nat) (q : Int32 × mT) : Option ((Int32 × mT) ⊕ (Int32 × mT)) :=
  (rdI (q.2.1 XB) L (q.1 + (1 : Int32))).bind fun x1 =>
  (gL_handicap x1 q.2).bind fun p2 =>
  (rdI (p2.2.1 XB) L (q.1 + (1 : Int32))).bind fun x3 =>
  (gM_handicap x3 p2.2).bind fun p4 =>
  if p2.1 = p4.1 then
    some (.inl (q.1 + (6 : Int32), p4.2))
  else
    some (.inr (((0 : Int32), p4.2)))
set_option maxRecDepth 8000 in
theorem gLaw_k38_ok {L d : Nat} (hd : 13 ≤ d + 1) : ∀ (q : Int32 × mT) (x : (Int32 × mT) ⊕ (Int32 × mT)), gLaw_k38 L q = some x → ∀ o, sK (fun q => Ev (d + 1) 335 18 [(0, .ref XB), (1, .ref 0), (2, .ref 294), (3, .int q.1)] [] (uS L q.2) o) (fun r => o = (some (.int r.1), uS L r.2)) x → Ev (d + 1) 335 1338 [(0, .ref XB), (1, .ref 0), (2, .ref 294), (3, .int q.1)] [] (uS L q.2) o := by
  intro q x h o ho
  unfold gLaw_k38 at h
  refine Ev.seg D_335 [(.aload_n 1, 1), (.aload_n 0, 1), (.iload_n 3, 1), (.iconst 1, 1), (.iadd, 1)] (by decide +kernel) (j := 0) (pc' := 1343) (lv' := [(0, .ref XB), (1, .ref 0), (2, .ref 294), (3, .int q.1)]) (st' := [.int (q.1 + (1 : Int32)), .ref XB, .ref 0]) rfl ?_
  obtain ⟨x1, e1, h⟩ := bd h
  refine Ev.iald D_335 (by decide +kernel) (S_aIx (by rfl) (Nat.le_refl _) e1) ?_
  obtain ⟨p2, e2, h⟩ := bd h
  refine Ev.callv D_335 E_131 (by decide +kernel) C_11_170 0 [.int x1] (r := []) rfl (gd_o k_0 (by decide)) rfl (Nat.le_of_ble_eq_true rfl) (Nat.le_of_ble_eq_true rfl) (gL_handicap_ok (by omega)  e2) ?_
  refine Ev.seg D_335 [(.aload_n 2, 1), (.aload_n 0, 1), (.iload_n 3, 1), (.iconst 1, 1), (.iadd, 1)] (by decide +kernel) (j := 0) (pc' := 1352) (lv' := [(0, .ref XB), (1, .ref 0), (2, .ref 294), (3, .int q.1)]) (st' := [.int (q.1 + (1 : Int32)), .ref XB, .ref 294, .int p2.1]) rfl ?_
  obtain ⟨x3, e3, h⟩ := bd h
  refine Ev.iald D_335 (by decide +kernel) (S_aIx (by rfl) (Nat.le_refl _) e3) ?_
  obtain ⟨p4, e4, h⟩ := bd h
  refine Ev.callv D_335 E_265 (by decide +kernel) C_11_173 294 [.int x3] (r := [.int p2.1]) rfl (gd_o k_294 (by decide)) rfl (Nat.le_of_ble_eq_true rfl) (Nat.le_of_ble_eq_true rfl) (gM_handicap_ok (by omega)  e4) ?_
  refine Ev.icmp D_335 (c := .eq) (off := 1032) (by decide +kernel) (t := 2388) rfl (fun c5 => ?_) (fun c5 => ?_)
  · have c5 : p2.1 = p4.1 := of_decide_eq_true c5
    rw [if_pos c5] at h
    refine Ev.seg D_335 [(.iinc 3 6, 3), (.goto (-2373), 3)] (by decide +kernel) (j := 0) (pc' := 18) (lv' := [(3, .int (q.1 + (6 : Int32))), (0, .ref XB), (1, .ref 0), (2, .ref 294)]) (st' := []) rfl ?_
    cases h
    exact Ev.sub (lv' := [(0, .ref XB), (1, .ref 0), (2, .ref 294), (3, .int (q.1 + (6 : Int32)))]) (subL_cons rfl (subL_cons rfl (subL_cons rfl (subL_cons rfl subL_nil)))) ho
  · have c5 : ¬ p2.1 = p4.1 := of_decide_eq_false c5
    rw [if_neg c5] at h
    refine Ev.seg D_335 [(.iconst 0, 1)] (by decide +kernel) (j := 0) (pc' := 1360) (lv' := [(0, .ref XB), (1, .ref 0), (2, .ref 294), (3, .int q.1)]) (st' := [.int (0 : Int32)]) rfl ?_
    cases h
    obtain rfl : o = _ := ho
    exact Ev.zret D_335 (by decide) (by decide +kernel)
def gLaw_k39 (L : Nat) (q : Int32 × mT) : Option ((Int32 × mT) ⊕ (Int32 × mT)) :=
  (rdI (q.2.1 XB) L (q.1 + (1 : Int32))).bind fun x1 =>
  (gL_start x1 q.2).bind fun p2 =>
  (rdI (p2.2.1 XB) L (q.1 + (1 : Int32))).bind fun x3 =>
  (gM_start x3 p2.2).bind fun p4 =>
  if p2.1 = p4.1 then
    some (.inl (q.1 + (6 : Int32), p4.2))
  else
    some (.inr (((0 : Int32), p4.2)))
set_option maxRecDepth 8000 in
theorem gLaw_k39_ok {L d : Nat} (hd : 13 ≤ d + 1) : ∀ (q : Int32 × mT) (x : (Int32 × mT) ⊕ (Int32 × mT)), gLaw_k39 L q = some x → ∀ o, sK (fun q => Ev (d + 1) 335 18 [(0, .ref XB), (1, .ref 0), (2, .ref 294), (3, .int q.1)] [] (uS L q.2) o) (fun r => o = (some (.int r.1), uS L r.2)) x → Ev (d + 1) 335 1361 [(0, .ref XB), (1, .ref 0), (2, .ref 294), (3, .int q.1)] [] (uS L q.2) o := by
  intro q x h o ho
  unfold gLaw_k39 at h
  refine Ev.seg D_335 [(.aload_n 1, 1), (.aload_n 0, 1), (.iload_n 3, 1), (.iconst 1, 1), (.iadd, 1)] (by decide +kernel) (j := 0) (pc' := 1366) (lv' := [(0, .ref XB), (1, .ref 0), (2, .ref 294), (3, .int q.1)]) (st' := [.int (q.1 + (1 : Int32)), .ref XB, .ref 0]) rfl ?_
  obtain ⟨x1, e1, h⟩ := bd h
  refine Ev.iald D_335 (by decide +kernel) (S_aIx (by rfl) (Nat.le_refl _) e1) ?_
  obtain ⟨p2, e2, h⟩ := bd h
  refine Ev.callv D_335 E_132 (by decide +kernel) C_11_174 0 [.int x1] (r := []) rfl (gd_o k_0 (by decide)) rfl (Nat.le_of_ble_eq_true rfl) (Nat.le_of_ble_eq_true rfl) (gL_start_ok (by omega)  e2) ?_
  refine Ev.seg D_335 [(.aload_n 2, 1), (.aload_n 0, 1), (.iload_n 3, 1), (.iconst 1, 1), (.iadd, 1)] (by decide +kernel) (j := 0) (pc' := 1375) (lv' := [(0, .ref XB), (1, .ref 0), (2, .ref 294), (3, .int q.1)]) (st' := [.int (q.1 + (1 : Int32)), .ref XB, .ref 294, .int p2.1]) rfl ?_
  obtain ⟨x3, e3, h⟩ := bd h
  refine Ev.iald D_335 (by decide +kernel) (S_aIx (by rfl) (Nat.le_refl _) e3) ?_
  obtain ⟨p4, e4, h⟩ := bd h
  refine Ev.callv D_335 E_266 (by decide +kernel) C_11_177 294 [.int x3] (r := [.int p2.1]) rfl (gd_o k_294 (by decide)) rfl (Nat.le_of_ble_eq_true rfl) (Nat.le_of_ble_eq_true rfl) (gM_start_ok (by omega)  e4) ?_
  refine Ev.icmp D_335 (c := .eq) (off := 1009) (by decide +kernel) (t := 2388) rfl (fun c5 => ?_) (fun c5 => ?_)
  · have c5 : p2.1 = p4.1 := of_decide_eq_true c5
    rw [if_pos c5] at h
    refine Ev.seg D_335 [(.iinc 3 6, 3), (.goto (-2373), 3)] (by decide +kernel) (j := 0) (pc' := 18) (lv' := [(3, .int (q.1 + (6 : Int32))), (0, .ref XB), (1, .ref 0), (2, .ref 294)]) (st' := []) rfl ?_
    cases h
    exact Ev.sub (lv' := [(0, .ref XB), (1, .ref 0), (2, .ref 294), (3, .int (q.1 + (6 : Int32)))]) (subL_cons rfl (subL_cons rfl (subL_cons rfl (subL_cons rfl subL_nil)))) ho
  · have c5 : ¬ p2.1 = p4.1 := of_decide_eq_false c5
    rw [if_neg c5] at h
    refine Ev.seg D_335 [(.iconst 0, 1)] (by decide +kernel) (j := 0) (pc' := 1383) (lv' := [(0, .ref XB), (1, .ref 0), (2, .ref 294), (3, .int q.1)]) (st' := [.int (0 : Int32)]) rfl ?_
    cases h
    obtain rfl : o = _ := ho
    exact Ev.zret D_335 (by decide) (by decide +kernel)
def gLaw_k40 (L : Nat) (q : Int32 × mT) : Option ((Int32 × mT) ⊕ (Int32 × mT)) :=
  (rdI (q.2.1 XB) L (q.1 + (1 : Int32))).bind fun x1 =>
  (gL_by x1 q.2).bind fun p2 =>
  (rdI (p2.2.1 XB) L (q.1 + (1 : Int32))).bind fun x3 =>
  (gM_by x3 p2.2).bind fun p4 =>
  if p2.1 = p4.1 then
    some (.inl (q.1 + (6 : Int32), p4.2))
  else
    some (.inr (((0 : Int32), p4.2)))
set_option maxRecDepth 8000 in
theorem gLaw_k40_ok {L d : Nat} (hd : 13 ≤ d + 1) : ∀ (q : Int32 × mT) (x : (Int32 × mT) ⊕ (Int32 × mT)), gLaw_k40 L q = some x → ∀ o, sK (fun q => Ev (d + 1) 335 18 [(0, .ref XB), (1, .ref 0), (2, .ref 294), (3, .int q.1)] [] (uS L q.2) o) (fun r => o = (some (.int r.1), uS L r.2)) x → Ev (d + 1) 335 1384 [(0, .ref XB), (1, .ref 0), (2, .ref 294), (3, .int q.1)] [] (uS L q.2) o := by
  intro q x h o ho
  unfold gLaw_k40 at h
  refine Ev.seg D_335 [(.aload_n 1, 1), (.aload_n 0, 1), (.iload_n 3, 1), (.iconst 1, 1), (.iadd, 1)] (by decide +kernel) (j := 0) (pc' := 1389) (lv' := [(0, .ref XB), (1, .ref 0), (2, .ref 294), (3, .int q.1)]) (st' := [.int (q.1 + (1 : Int32)), .ref XB, .ref 0]) rfl ?_
  obtain ⟨x1, e1, h⟩ := bd h
  refine Ev.iald D_335 (by decide +kernel) (S_aIx (by rfl) (Nat.le_refl _) e1) ?_
  obtain ⟨p2, e2, h⟩ := bd h
  refine Ev.callv D_335 E_133 (by decide +kernel) C_11_178 0 [.int x1] (r := []) rfl (gd_o k_0 (by decide)) rfl (Nat.le_of_ble_eq_true rfl) (Nat.le_of_ble_eq_true rfl) (gL_by_ok (by omega)  e2) ?_
  refine Ev.seg D_335 [(.aload_n 2, 1), (.aload_n 0, 1), (.iload_n 3, 1), (.iconst 1, 1), (.iadd, 1)] (by decide +kernel) (j := 0) (pc' := 1398) (lv' := [(0, .ref XB), (1, .ref 0), (2, .ref 294), (3, .int q.1)]) (st' := [.int (q.1 + (1 : Int32)), .ref XB, .ref 294, .int p2.1]) rfl ?_
  obtain ⟨x3, e3, h⟩ := bd h
  refine Ev.iald D_335 (by decide +kernel) (S_aIx (by rfl) (Nat.le_refl _) e3) ?_
  obtain ⟨p4, e4, h⟩ := bd h
  refine Ev.callv D_335 E_267 (by decide +kernel) C_11_181 294 [.int x3] (r := [.int p2.1]) rfl (gd_o k_294 (by decide)) rfl (Nat.le_of_ble_eq_true rfl) (Nat.le_of_ble_eq_true rfl) (gM_by_ok (by omega)  e4) ?_
  refine Ev.icmp D_335 (c := .eq) (off := 986) (by decide +kernel) (t := 2388) rfl (fun c5 => ?_) (fun c5 => ?_)
  · have c5 : p2.1 = p4.1 := of_decide_eq_true c5
    rw [if_pos c5] at h
    refine Ev.seg D_335 [(.iinc 3 6, 3), (.goto (-2373), 3)] (by decide +kernel) (j := 0) (pc' := 18) (lv' := [(3, .int (q.1 + (6 : Int32))), (0, .ref XB), (1, .ref 0), (2, .ref 294)]) (st' := []) rfl ?_
    cases h
    exact Ev.sub (lv' := [(0, .ref XB), (1, .ref 0), (2, .ref 294), (3, .int (q.1 + (6 : Int32)))]) (subL_cons rfl (subL_cons rfl (subL_cons rfl (subL_cons rfl subL_nil)))) ho
  · have c5 : ¬ p2.1 = p4.1 := of_decide_eq_false c5
    rw [if_neg c5] at h
    refine Ev.seg D_335 [(.iconst 0, 1)] (by decide +kernel) (j := 0) (pc' := 1406) (lv' := [(0, .ref XB), (1, .ref 0), (2, .ref 294), (3, .int q.1)]) (st' := [.int (0 : Int32)]) rfl ?_
    cases h
    obtain rfl : o = _ := ho
    exact Ev.zret D_335 (by decide) (by decide +kernel)
def gLaw_k41 (L : Nat) (q : Int32 × mT) : Option ((Int32 × mT) ⊕ (Int32 × mT)) :=
  (rdI (q.2.1 XB) L (q.1 + (1 : Int32))).bind fun x1 =>
  (gL_ways x1 q.2).bind fun p2 =>
  (rdI (p2.2.1 XB) L (q.1 + (1 : Int32))).bind fun x3 =>
  (gM_ways x3 p2.2).bind fun p4 =>
  if p2.1 = p4.1 then
    some (.inl (q.1 + (6 : Int32), p4.2))
  else
    some (.inr (((0 : Int32), p4.2)))
set_option maxRecDepth 8000 in
theorem gLaw_k41_ok {L d : Nat} (hd : 13 ≤ d + 1) : ∀ (q : Int32 × mT) (x : (Int32 × mT) ⊕ (Int32 × mT)), gLaw_k41 L q = some x → ∀ o, sK (fun q => Ev (d + 1) 335 18 [(0, .ref XB), (1, .ref 0), (2, .ref 294), (3, .int q.1)] [] (uS L q.2) o) (fun r => o = (some (.int r.1), uS L r.2)) x → Ev (d + 1) 335 1407 [(0, .ref XB), (1, .ref 0), (2, .ref 294), (3, .int q.1)] [] (uS L q.2) o := by
  intro q x h o ho
  unfold gLaw_k41 at h
  refine Ev.seg D_335 [(.aload_n 1, 1), (.aload_n 0, 1), (.iload_n 3, 1), (.iconst 1, 1), (.iadd, 1)] (by decide +kernel) (j := 0) (pc' := 1412) (lv' := [(0, .ref XB), (1, .ref 0), (2, .ref 294), (3, .int q.1)]) (st' := [.int (q.1 + (1 : Int32)), .ref XB, .ref 0]) rfl ?_
  obtain ⟨x1, e1, h⟩ := bd h
  refine Ev.iald D_335 (by decide +kernel) (S_aIx (by rfl) (Nat.le_refl _) e1) ?_
  obtain ⟨p2, e2, h⟩ := bd h
  refine Ev.callv D_335 E_134 (by decide +kernel) C_11_182 0 [.int x1] (r := []) rfl (gd_o k_0 (by decide)) rfl (Nat.le_of_ble_eq_true rfl) (Nat.le_of_ble_eq_true rfl) (gL_ways_ok (by omega)  e2) ?_
  refine Ev.seg D_335 [(.aload_n 2, 1), (.aload_n 0, 1), (.iload_n 3, 1), (.iconst 1, 1), (.iadd, 1)] (by decide +kernel) (j := 0) (pc' := 1421) (lv' := [(0, .ref XB), (1, .ref 0), (2, .ref 294), (3, .int q.1)]) (st' := [.int (q.1 + (1 : Int32)), .ref XB, .ref 294, .int p2.1]) rfl ?_
  obtain ⟨x3, e3, h⟩ := bd h
  refine Ev.iald D_335 (by decide +kernel) (S_aIx (by rfl) (Nat.le_refl _) e3) ?_
  obtain ⟨p4, e4, h⟩ := bd h
  refine Ev.callv D_335 E_270 (by decide +kernel) C_11_185 294 [.int x3] (r := [.int p2.1]) rfl (gd_o k_294 (by decide)) rfl (Nat.le_of_ble_eq_true rfl) (Nat.le_of_ble_eq_true rfl) (gM_ways_ok (by omega)  e4) ?_
  refine Ev.icmp D_335 (c := .eq) (off := 963) (by decide +kernel) (t := 2388) rfl (fun c5 => ?_) (fun c5 => ?_)
  · have c5 : p2.1 = p4.1 := of_decide_eq_true c5
    rw [if_pos c5] at h
    refine Ev.seg D_335 [(.iinc 3 6, 3), (.goto (-2373), 3)] (by decide +kernel) (j := 0) (pc' := 18) (lv' := [(3, .int (q.1 + (6 : Int32))), (0, .ref XB), (1, .ref 0), (2, .ref 294)]) (st' := []) rfl ?_
    cases h
    exact Ev.sub (lv' := [(0, .ref XB), (1, .ref 0), (2, .ref 294), (3, .int (q.1 + (6 : Int32)))]) (subL_cons rfl (subL_cons rfl (subL_cons rfl (subL_cons rfl subL_nil)))) ho
  · have c5 : ¬ p2.1 = p4.1 := of_decide_eq_false c5
    rw [if_neg c5] at h
    refine Ev.seg D_335 [(.iconst 0, 1)] (by decide +kernel) (j := 0) (pc' := 1429) (lv' := [(0, .ref XB), (1, .ref 0), (2, .ref 294), (3, .int q.1)]) (st' := [.int (0 : Int32)]) rfl ?_
    cases h
    obtain rfl : o = _ := ho
    exact Ev.zret D_335 (by decide) (by decide +kernel)
def gLaw_k42 (L : Nat) (q : Int32 × mT) : Option ((Int32 × mT) ⊕ (Int32 × mT)) :=
  (rdI (q.2.1 XB) L (q.1 + (1 : Int32))).bind fun x1 =>
  (rdI (q.2.1 XB) L (q.1 + (2 : Int32))).bind fun x2 =>
  (gL_plan x1 x2 q.2).bind fun p3 =>
  (rdI (p3.2.1 XB) L (q.1 + (1 : Int32))).bind fun x4 =>
  (rdI (p3.2.1 XB) L (q.1 + (2 : Int32))).bind fun x5 =>
  (gM_plan x4 x5 p3.2).bind fun p6 =>
  if p3.1 = p6.1 then
    some (.inl (q.1 + (6 : Int32), p6.2))
  else
    some (.inr (((0 : Int32), p6.2)))
set_option maxRecDepth 8000 in
theorem gLaw_k42_ok {L d : Nat} (hd : 13 ≤ d + 1) : ∀ (q : Int32 × mT) (x : (Int32 × mT) ⊕ (Int32 × mT)), gLaw_k42 L q = some x → ∀ o, sK (fun q => Ev (d + 1) 335 18 [(0, .ref XB), (1, .ref 0), (2, .ref 294), (3, .int q.1)] [] (uS L q.2) o) (fun r => o = (some (.int r.1), uS L r.2)) x → Ev (d + 1) 335 1430 [(0, .ref XB), (1, .ref 0), (2, .ref 294), (3, .int q.1)] [] (uS L q.2) o := by
  intro q x h o ho
  unfold gLaw_k42 at h
  refine Ev.seg D_335 [(.aload_n 1, 1), (.aload_n 0, 1), (.iload_n 3, 1), (.iconst 1, 1), (.iadd, 1)] (by decide +kernel) (j := 0) (pc' := 1435) (lv' := [(0, .ref XB), (1, .ref 0), (2, .ref 294), (3, .int q.1)]) (st' := [.int (q.1 + (1 : Int32)), .ref XB, .ref 0]) rfl ?_
  obtain ⟨x1, e1, h⟩ := bd h
  refine Ev.iald D_335 (by decide +kernel) (S_aIx (by rfl) (Nat.le_refl _) e1) ?_
  refine Ev.seg D_335 [(.aload_n 0, 1), (.iload_n 3, 1), (.iconst 2, 1), (.iadd, 1)] (by decide +kernel) (j := 0) (pc' := 1440) (lv' := [(0, .ref XB), (1, .ref 0), (2, .ref 294), (3, .int q.1)]) (st' := [.int (q.1 + (2 : Int32)), .ref XB, .int x1, .ref 0]) rfl ?_
  obtain ⟨x2, e2, h⟩ := bd h
  refine Ev.iald D_335 (by decide +kernel) (S_aIx (by rfl) (Nat.le_refl _) e2) ?_
  obtain ⟨p3, e3, h⟩ := bd h
  refine Ev.callv D_335 E_135 (by decide +kernel) C_11_186 0 [.int x1, .int x2] (r := []) rfl (gd_o k_0 (by decide)) rfl (Nat.le_of_ble_eq_true rfl) (Nat.le_of_ble_eq_true rfl) (gL_plan_ok (by omega)  e3) ?_
  refine Ev.seg D_335 [(.aload_n 2, 1), (.aload_n 0, 1), (.iload_n 3, 1), (.iconst 1, 1), (.iadd, 1)] (by decide +kernel) (j := 0) (pc' := 1449) (lv' := [(0, .ref XB), (1, .ref 0), (2, .ref 294), (3, .int q.1)]) (st' := [.int (q.1 + (1 : Int32)), .ref XB, .ref 294, .int p3.1]) rfl ?_
  obtain ⟨x4, e4, h⟩ := bd h
  refine Ev.iald D_335 (by decide +kernel) (S_aIx (by rfl) (Nat.le_refl _) e4) ?_
  refine Ev.seg D_335 [(.aload_n 0, 1), (.iload_n 3, 1), (.iconst 2, 1), (.iadd, 1)] (by decide +kernel) (j := 0) (pc' := 1454) (lv' := [(0, .ref XB), (1, .ref 0), (2, .ref 294), (3, .int q.1)]) (st' := [.int (q.1 + (2 : Int32)), .ref XB, .int x4, .ref 294, .int p3.1]) rfl ?_
  obtain ⟨x5, e5, h⟩ := bd h
  refine Ev.iald D_335 (by decide +kernel) (S_aIx (by rfl) (Nat.le_refl _) e5) ?_
  obtain ⟨p6, e6, h⟩ := bd h
  refine Ev.callv D_335 E_277 (by decide +kernel) C_11_189 294 [.int x4, .int x5] (r := [.int p3.1]) rfl (gd_o k_294 (by decide)) rfl (Nat.le_of_ble_eq_true rfl) (Nat.le_of_ble_eq_true rfl) (gM_plan_ok (by omega)  e6) ?_
  refine Ev.icmp D_335 (c := .eq) (off := 930) (by decide +kernel) (t := 2388) rfl (fun c7 => ?_) (fun c7 => ?_)
  · have c7 : p3.1 = p6.1 := of_decide_eq_true c7
    rw [if_pos c7] at h
    refine Ev.seg D_335 [(.iinc 3 6, 3), (.goto (-2373), 3)] (by decide +kernel) (j := 0) (pc' := 18) (lv' := [(3, .int (q.1 + (6 : Int32))), (0, .ref XB), (1, .ref 0), (2, .ref 294)]) (st' := []) rfl ?_
    cases h
    exact Ev.sub (lv' := [(0, .ref XB), (1, .ref 0), (2, .ref 294), (3, .int (q.1 + (6 : Int32)))]) (subL_cons rfl (subL_cons rfl (subL_cons rfl (subL_cons rfl subL_nil)))) ho
  · have c7 : ¬ p3.1 = p6.1 := of_decide_eq_false c7
    rw [if_neg c7] at h
    refine Ev.seg D_335 [(.iconst 0, 1)] (by decide +kernel) (j := 0) (pc' := 1462) (lv' := [(0, .ref XB), (1, .ref 0), (2, .ref 294), (3, .int q.1)]) (st' := [.int (0 : Int32)]) rfl ?_
    cases h
    obtain rfl : o = _ := ho
    exact Ev.zret D_335 (by decide) (by decide +kernel)
def gLaw_k43 (L : Nat) (q : Int32 × mT) : Option ((Int32 × mT) ⊕ (Int32 × mT)) :=
  (rdI (q.2.1 XB) L (q.1 + (1 : Int32))).bind fun x1 =>
  (gL_fewest x1 q.2).bind fun p2 =>
  (rdI (p2.2.1 XB) L (q.1 + (1 : Int32))).bind fun x3 =>
  (gM_fewest x3 p2.2).bind fun p4 =>
  if p2.1 = p4.1 then
    some (.inl (q.1 + (6 : Int32), p4.2))
  else
    some (.inr (((0 : Int32), p4.2)))
set_option maxRecDepth 8000 in
theorem gLaw_k43_ok {L d : Nat} (hd : 13 ≤ d + 1) : ∀ (q : Int32 × mT) (x : (Int32 × mT) ⊕ (Int32 × mT)), gLaw_k43 L q = some x → ∀ o, sK (fun q => Ev (d + 1) 335 18 [(0, .ref XB), (1, .ref 0), (2, .ref 294), (3, .int q.1)] [] (uS L q.2) o) (fun r => o = (some (.int r.1), uS L r.2)) x → Ev (d + 1) 335 1463 [(0, .ref XB), (1, .ref 0), (2, .ref 294), (3, .int q.1)] [] (uS L q.2) o := by
  intro q x h o ho
  unfold gLaw_k43 at h
  refine Ev.seg D_335 [(.aload_n 1, 1), (.aload_n 0, 1), (.iload_n 3, 1), (.iconst 1, 1), (.iadd, 1)] (by decide +kernel) (j := 0) (pc' := 1468) (lv' := [(0, .ref XB), (1, .ref 0), (2, .ref 294), (3, .int q.1)]) (st' := [.int (q.1 + (1 : Int32)), .ref XB, .ref 0]) rfl ?_
  obtain ⟨x1, e1, h⟩ := bd h
  refine Ev.iald D_335 (by decide +kernel) (S_aIx (by rfl) (Nat.le_refl _) e1) ?_
  obtain ⟨p2, e2, h⟩ := bd h
  refine Ev.callv D_335 E_136 (by decide +kernel) C_11_190 0 [.int x1] (r := []) rfl (gd_o k_0 (by decide)) rfl (Nat.le_of_ble_eq_true rfl) (Nat.le_of_ble_eq_true rfl) (gL_fewest_ok (by omega)  e2) ?_
  refine Ev.seg D_335 [(.aload_n 2, 1), (.aload_n 0, 1), (.iload_n 3, 1), (.iconst 1, 1), (.iadd, 1)] (by decide +kernel) (j := 0) (pc' := 1477) (lv' := [(0, .ref XB), (1, .ref 0), (2, .ref 294), (3, .int q.1)]) (st' := [.int (q.1 + (1 : Int32)), .ref XB, .ref 294, .int p2.1]) rfl ?_
  obtain ⟨x3, e3, h⟩ := bd h
  refine Ev.iald D_335 (by decide +kernel) (S_aIx (by rfl) (Nat.le_refl _) e3) ?_
  obtain ⟨p4, e4, h⟩ := bd h
  refine Ev.callv D_335 E_278 (by decide +kernel) C_11_193 294 [.int x3] (r := [.int p2.1]) rfl (gd_o k_294 (by decide)) rfl (Nat.le_of_ble_eq_true rfl) (Nat.le_of_ble_eq_true rfl) (gM_fewest_ok (by omega)  e4) ?_
  refine Ev.icmp D_335 (c := .eq) (off := 907) (by decide +kernel) (t := 2388) rfl (fun c5 => ?_) (fun c5 => ?_)
  · have c5 : p2.1 = p4.1 := of_decide_eq_true c5
    rw [if_pos c5] at h
    refine Ev.seg D_335 [(.iinc 3 6, 3), (.goto (-2373), 3)] (by decide +kernel) (j := 0) (pc' := 18) (lv' := [(3, .int (q.1 + (6 : Int32))), (0, .ref XB), (1, .ref 0), (2, .ref 294)]) (st' := []) rfl ?_
    cases h
    exact Ev.sub (lv' := [(0, .ref XB), (1, .ref 0), (2, .ref 294), (3, .int (q.1 + (6 : Int32)))]) (subL_cons rfl (subL_cons rfl (subL_cons rfl (subL_cons rfl subL_nil)))) ho
  · have c5 : ¬ p2.1 = p4.1 := of_decide_eq_false c5
    rw [if_neg c5] at h
    refine Ev.seg D_335 [(.iconst 0, 1)] (by decide +kernel) (j := 0) (pc' := 1485) (lv' := [(0, .ref XB), (1, .ref 0), (2, .ref 294), (3, .int q.1)]) (st' := [.int (0 : Int32)]) rfl ?_
    cases h
    obtain rfl : o = _ := ho
    exact Ev.zret D_335 (by decide) (by decide +kernel)
def gLaw_k44 (L : Nat) (q : Int32 × mT) : Option ((Int32 × mT) ⊕ (Int32 × mT)) :=
  (rdI (q.2.1 XB) L (q.1 + (1 : Int32))).bind fun x1 =>
  (gL_soonest x1 q.2).bind fun p2 =>
  (rdI (p2.2.1 XB) L (q.1 + (1 : Int32))).bind fun x3 =>
  (gM_soonest x3 p2.2).bind fun p4 =>
  if p2.1 = p4.1 then
    some (.inl (q.1 + (6 : Int32), p4.2))
  else
    some (.inr (((0 : Int32), p4.2)))
set_option maxRecDepth 8000 in
theorem gLaw_k44_ok {L d : Nat} (hd : 13 ≤ d + 1) : ∀ (q : Int32 × mT) (x : (Int32 × mT) ⊕ (Int32 × mT)), gLaw_k44 L q = some x → ∀ o, sK (fun q => Ev (d + 1) 335 18 [(0, .ref XB), (1, .ref 0), (2, .ref 294), (3, .int q.1)] [] (uS L q.2) o) (fun r => o = (some (.int r.1), uS L r.2)) x → Ev (d + 1) 335 1486 [(0, .ref XB), (1, .ref 0), (2, .ref 294), (3, .int q.1)] [] (uS L q.2) o := by
  intro q x h o ho
  unfold gLaw_k44 at h
  refine Ev.seg D_335 [(.aload_n 1, 1), (.aload_n 0, 1), (.iload_n 3, 1), (.iconst 1, 1), (.iadd, 1)] (by decide +kernel) (j := 0) (pc' := 1491) (lv' := [(0, .ref XB), (1, .ref 0), (2, .ref 294), (3, .int q.1)]) (st' := [.int (q.1 + (1 : Int32)), .ref XB, .ref 0]) rfl ?_
  obtain ⟨x1, e1, h⟩ := bd h
  refine Ev.iald D_335 (by decide +kernel) (S_aIx (by rfl) (Nat.le_refl _) e1) ?_
  obtain ⟨p2, e2, h⟩ := bd h
  refine Ev.callv D_335 E_137 (by decide +kernel) C_11_194 0 [.int x1] (r := []) rfl (gd_o k_0 (by decide)) rfl (Nat.le_of_ble_eq_true rfl) (Nat.le_of_ble_eq_true rfl) (gL_soonest_ok (by omega)  e2) ?_
  refine Ev.seg D_335 [(.aload_n 2, 1), (.aload_n 0, 1), (.iload_n 3, 1), (.iconst 1, 1), (.iadd, 1)] (by decide +kernel) (j := 0) (pc' := 1500) (lv' := [(0, .ref XB), (1, .ref 0), (2, .ref 294), (3, .int q.1)]) (st' := [.int (q.1 + (1 : Int32)), .ref XB, .ref 294, .int p2.1]) rfl ?_
  obtain ⟨x3, e3, h⟩ := bd h
  refine Ev.iald D_335 (by decide +kernel) (S_aIx (by rfl) (Nat.le_refl _) e3) ?_
  obtain ⟨p4, e4, h⟩ := bd h
  refine Ev.callv D_335 E_280 (by decide +kernel) C_11_197 294 [.int x3] (r := [.int p2.1]) rfl (gd_o k_294 (by decide)) rfl (Nat.le_of_ble_eq_true rfl) (Nat.le_of_ble_eq_true rfl) (gM_soonest_ok (by omega)  e4) ?_
  refine Ev.icmp D_335 (c := .eq) (off := 884) (by decide +kernel) (t := 2388) rfl (fun c5 => ?_) (fun c5 => ?_)
  · have c5 : p2.1 = p4.1 := of_decide_eq_true c5
    rw [if_pos c5] at h
    refine Ev.seg D_335 [(.iinc 3 6, 3), (.goto (-2373), 3)] (by decide +kernel) (j := 0) (pc' := 18) (lv' := [(3, .int (q.1 + (6 : Int32))), (0, .ref XB), (1, .ref 0), (2, .ref 294)]) (st' := []) rfl ?_
    cases h
    exact Ev.sub (lv' := [(0, .ref XB), (1, .ref 0), (2, .ref 294), (3, .int (q.1 + (6 : Int32)))]) (subL_cons rfl (subL_cons rfl (subL_cons rfl (subL_cons rfl subL_nil)))) ho
  · have c5 : ¬ p2.1 = p4.1 := of_decide_eq_false c5
    rw [if_neg c5] at h
    refine Ev.seg D_335 [(.iconst 0, 1)] (by decide +kernel) (j := 0) (pc' := 1508) (lv' := [(0, .ref XB), (1, .ref 0), (2, .ref 294), (3, .int q.1)]) (st' := [.int (0 : Int32)]) rfl ?_
    cases h
    obtain rfl : o = _ := ho
    exact Ev.zret D_335 (by decide) (by decide +kernel)
def gLaw_k45 (L : Nat) (q : Int32 × mT) : Option ((Int32 × mT) ⊕ (Int32 × mT)) :=
  (rdI (q.2.1 XB) L (q.1 + (1 : Int32))).bind fun x1 =>
  (gL_far x1 q.2).bind fun p2 =>
  (rdI (p2.2.1 XB) L (q.1 + (1 : Int32))).bind fun x3 =>
  (gM_far x3 p2.2).bind fun p4 =>
  if p2.1 = p4.1 then
    some (.inl (q.1 + (6 : Int32), p4.2))
  else
    some (.inr (((0 : Int32), p4.2)))
set_option maxRecDepth 8000 in
theorem gLaw_k45_ok {L d : Nat} (hd : 13 ≤ d + 1) : ∀ (q : Int32 × mT) (x : (Int32 × mT) ⊕ (Int32 × mT)), gLaw_k45 L q = some x → ∀ o, sK (fun q => Ev (d + 1) 335 18 [(0, .ref XB), (1, .ref 0), (2, .ref 294), (3, .int q.1)] [] (uS L q.2) o) (fun r => o = (some (.int r.1), uS L r.2)) x → Ev (d + 1) 335 1509 [(0, .ref XB), (1, .ref 0), (2, .ref 294), (3, .int q.1)] [] (uS L q.2) o := by
  intro q x h o ho
  unfold gLaw_k45 at h
  refine Ev.seg D_335 [(.aload_n 1, 1), (.aload_n 0, 1), (.iload_n 3, 1), (.iconst 1, 1), (.iadd, 1)] (by decide +kernel) (j := 0) (pc' := 1514) (lv' := [(0, .ref XB), (1, .ref 0), (2, .ref 294), (3, .int q.1)]) (st' := [.int (q.1 + (1 : Int32)), .ref XB, .ref 0]) rfl ?_
  obtain ⟨x1, e1, h⟩ := bd h
  refine Ev.iald D_335 (by decide +kernel) (S_aIx (by rfl) (Nat.le_refl _) e1) ?_
  obtain ⟨p2, e2, h⟩ := bd h
  refine Ev.callv D_335 E_138 (by decide +kernel) C_11_198 0 [.int x1] (r := []) rfl (gd_o k_0 (by decide)) rfl (Nat.le_of_ble_eq_true rfl) (Nat.le_of_ble_eq_true rfl) (gL_far_ok (by omega)  e2) ?_
  refine Ev.seg D_335 [(.aload_n 2, 1), (.aload_n 0, 1), (.iload_n 3, 1), (.iconst 1, 1), (.iadd, 1)] (by decide +kernel) (j := 0) (pc' := 1523) (lv' := [(0, .ref XB), (1, .ref 0), (2, .ref 294), (3, .int q.1)]) (st' := [.int (q.1 + (1 : Int32)), .ref XB, .ref 294, .int p2.1]) rfl ?_
  obtain ⟨x3, e3, h⟩ := bd h
  refine Ev.iald D_335 (by decide +kernel) (S_aIx (by rfl) (Nat.le_refl _) e3) ?_
  obtain ⟨p4, e4, h⟩ := bd h
  refine Ev.callv D_335 E_281 (by decide +kernel) C_11_201 294 [.int x3] (r := [.int p2.1]) rfl (gd_o k_294 (by decide)) rfl (Nat.le_of_ble_eq_true rfl) (Nat.le_of_ble_eq_true rfl) (gM_far_ok (by omega)  e4) ?_
  refine Ev.icmp D_335 (c := .eq) (off := 861) (by decide +kernel) (t := 2388) rfl (fun c5 => ?_) (fun c5 => ?_)
  · have c5 : p2.1 = p4.1 := of_decide_eq_true c5
    rw [if_pos c5] at h
    refine Ev.seg D_335 [(.iinc 3 6, 3), (.goto (-2373), 3)] (by decide +kernel) (j := 0) (pc' := 18) (lv' := [(3, .int (q.1 + (6 : Int32))), (0, .ref XB), (1, .ref 0), (2, .ref 294)]) (st' := []) rfl ?_
    cases h
    exact Ev.sub (lv' := [(0, .ref XB), (1, .ref 0), (2, .ref 294), (3, .int (q.1 + (6 : Int32)))]) (subL_cons rfl (subL_cons rfl (subL_cons rfl (subL_cons rfl subL_nil)))) ho
  · have c5 : ¬ p2.1 = p4.1 := of_decide_eq_false c5
    rw [if_neg c5] at h
    refine Ev.seg D_335 [(.iconst 0, 1)] (by decide +kernel) (j := 0) (pc' := 1531) (lv' := [(0, .ref XB), (1, .ref 0), (2, .ref 294), (3, .int q.1)]) (st' := [.int (0 : Int32)]) rfl ?_
    cases h
    obtain rfl : o = _ := ho
    exact Ev.zret D_335 (by decide) (by decide +kernel)
def gLaw_k46 (L : Nat) (q : Int32 × mT) : Option ((Int32 × mT) ⊕ (Int32 × mT)) :=
  (gL_can q.2).bind fun p1 =>
  (gM_can p1.2).bind fun p2 =>
  if p1.1 = p2.1 then
    some (.inl (q.1 + (6 : Int32), p2.2))
  else
    some (.inr (((0 : Int32), p2.2)))
set_option maxRecDepth 8000 in
theorem gLaw_k46_ok {L d : Nat} (hd : 13 ≤ d + 1) : ∀ (q : Int32 × mT) (x : (Int32 × mT) ⊕ (Int32 × mT)), gLaw_k46 L q = some x → ∀ o, sK (fun q => Ev (d + 1) 335 18 [(0, .ref XB), (1, .ref 0), (2, .ref 294), (3, .int q.1)] [] (uS L q.2) o) (fun r => o = (some (.int r.1), uS L r.2)) x → Ev (d + 1) 335 1532 [(0, .ref XB), (1, .ref 0), (2, .ref 294), (3, .int q.1)] [] (uS L q.2) o := by
  intro q x h o ho
  unfold gLaw_k46 at h
  refine Ev.seg D_335 [(.aload_n 1, 1)] (by decide +kernel) (j := 0) (pc' := 1533) (lv' := [(0, .ref XB), (1, .ref 0), (2, .ref 294), (3, .int q.1)]) (st' := [.ref 0]) rfl ?_
  obtain ⟨p1, e1, h⟩ := bd h
  refine Ev.callv D_335 E_139 (by decide +kernel) C_11_202 0 [] (r := []) rfl (gd_o k_0 (by decide)) rfl (Nat.le_of_ble_eq_true rfl) (Nat.le_of_ble_eq_true rfl) (gL_can_ok (by omega)  e1) ?_
  refine Ev.seg D_335 [(.aload_n 2, 1)] (by decide +kernel) (j := 0) (pc' := 1537) (lv' := [(0, .ref XB), (1, .ref 0), (2, .ref 294), (3, .int q.1)]) (st' := [.ref 294, .int p1.1]) rfl ?_
  obtain ⟨p2, e2, h⟩ := bd h
  refine Ev.callv D_335 E_282 (by decide +kernel) C_11_205 294 [] (r := [.int p1.1]) rfl (gd_o k_294 (by decide)) rfl (Nat.le_of_ble_eq_true rfl) (Nat.le_of_ble_eq_true rfl) (gM_can_ok (by omega)  e2) ?_
  refine Ev.icmp D_335 (c := .eq) (off := 848) (by decide +kernel) (t := 2388) rfl (fun c3 => ?_) (fun c3 => ?_)
  · have c3 : p1.1 = p2.1 := of_decide_eq_true c3
    rw [if_pos c3] at h
    refine Ev.seg D_335 [(.iinc 3 6, 3), (.goto (-2373), 3)] (by decide +kernel) (j := 0) (pc' := 18) (lv' := [(3, .int (q.1 + (6 : Int32))), (0, .ref XB), (1, .ref 0), (2, .ref 294)]) (st' := []) rfl ?_
    cases h
    exact Ev.sub (lv' := [(0, .ref XB), (1, .ref 0), (2, .ref 294), (3, .int (q.1 + (6 : Int32)))]) (subL_cons rfl (subL_cons rfl (subL_cons rfl (subL_cons rfl subL_nil)))) ho
  · have c3 : ¬ p1.1 = p2.1 := of_decide_eq_false c3
    rw [if_neg c3] at h
    refine Ev.seg D_335 [(.iconst 0, 1)] (by decide +kernel) (j := 0) (pc' := 1544) (lv' := [(0, .ref XB), (1, .ref 0), (2, .ref 294), (3, .int q.1)]) (st' := [.int (0 : Int32)]) rfl ?_
    cases h
    obtain rfl : o = _ := ho
    exact Ev.zret D_335 (by decide) (by decide +kernel)
def gLaw_k47 (L : Nat) (q : Int32 × mT) : Option ((Int32 × mT) ⊕ (Int32 × mT)) :=
  (gL_spoils q.2).bind fun p1 =>
  (gM_spoils p1.2).bind fun p2 =>
  if p1.1 = p2.1 then
    some (.inl (q.1 + (6 : Int32), p2.2))
  else
    some (.inr (((0 : Int32), p2.2)))
set_option maxRecDepth 8000 in
theorem gLaw_k47_ok {L d : Nat} (hd : 13 ≤ d + 1) : ∀ (q : Int32 × mT) (x : (Int32 × mT) ⊕ (Int32 × mT)), gLaw_k47 L q = some x → ∀ o, sK (fun q => Ev (d + 1) 335 18 [(0, .ref XB), (1, .ref 0), (2, .ref 294), (3, .int q.1)] [] (uS L q.2) o) (fun r => o = (some (.int r.1), uS L r.2)) x → Ev (d + 1) 335 1545 [(0, .ref XB), (1, .ref 0), (2, .ref 294), (3, .int q.1)] [] (uS L q.2) o := by
  intro q x h o ho
  unfold gLaw_k47 at h
  refine Ev.seg D_335 [(.aload_n 1, 1)] (by decide +kernel) (j := 0) (pc' := 1546) (lv' := [(0, .ref XB), (1, .ref 0), (2, .ref 294), (3, .int q.1)]) (st' := [.ref 0]) rfl ?_
  obtain ⟨p1, e1, h⟩ := bd h
  refine Ev.callv D_335 E_140 (by decide +kernel) C_11_206 0 [] (r := []) rfl (gd_o k_0 (by decide)) rfl (Nat.le_of_ble_eq_true rfl) (Nat.le_of_ble_eq_true rfl) (gL_spoils_ok (by omega)  e1) ?_
  refine Ev.seg D_335 [(.aload_n 2, 1)] (by decide +kernel) (j := 0) (pc' := 1550) (lv' := [(0, .ref XB), (1, .ref 0), (2, .ref 294), (3, .int q.1)]) (st' := [.ref 294, .int p1.1]) rfl ?_
  obtain ⟨p2, e2, h⟩ := bd h
  refine Ev.callv D_335 E_283 (by decide +kernel) C_11_209 294 [] (r := [.int p1.1]) rfl (gd_o k_294 (by decide)) rfl (Nat.le_of_ble_eq_true rfl) (Nat.le_of_ble_eq_true rfl) (gM_spoils_ok (by omega)  e2) ?_
  refine Ev.icmp D_335 (c := .eq) (off := 835) (by decide +kernel) (t := 2388) rfl (fun c3 => ?_) (fun c3 => ?_)
  · have c3 : p1.1 = p2.1 := of_decide_eq_true c3
    rw [if_pos c3] at h
    refine Ev.seg D_335 [(.iinc 3 6, 3), (.goto (-2373), 3)] (by decide +kernel) (j := 0) (pc' := 18) (lv' := [(3, .int (q.1 + (6 : Int32))), (0, .ref XB), (1, .ref 0), (2, .ref 294)]) (st' := []) rfl ?_
    cases h
    exact Ev.sub (lv' := [(0, .ref XB), (1, .ref 0), (2, .ref 294), (3, .int (q.1 + (6 : Int32)))]) (subL_cons rfl (subL_cons rfl (subL_cons rfl (subL_cons rfl subL_nil)))) ho
  · have c3 : ¬ p1.1 = p2.1 := of_decide_eq_false c3
    rw [if_neg c3] at h
    refine Ev.seg D_335 [(.iconst 0, 1)] (by decide +kernel) (j := 0) (pc' := 1557) (lv' := [(0, .ref XB), (1, .ref 0), (2, .ref 294), (3, .int q.1)]) (st' := [.int (0 : Int32)]) rfl ?_
    cases h
    obtain rfl : o = _ := ho
    exact Ev.zret D_335 (by decide) (by decide +kernel)
def gLaw_k48 (L : Nat) (q : Int32 × mT) : Option ((Int32 × mT) ⊕ (Int32 × mT)) :=
  (rdI (q.2.1 XB) L (q.1 + (1 : Int32))).bind fun x1 =>
  (gL_lure x1 q.2).bind fun p2 =>
  (rdI (p2.2.1 XB) L (q.1 + (1 : Int32))).bind fun x3 =>
  (gM_lure x3 p2.2).bind fun p4 =>
  if p2.1 = p4.1 then
    some (.inl (q.1 + (6 : Int32), p4.2))
  else
    some (.inr (((0 : Int32), p4.2)))
set_option maxRecDepth 8000 in
theorem gLaw_k48_ok {L d : Nat} (hd : 13 ≤ d + 1) : ∀ (q : Int32 × mT) (x : (Int32 × mT) ⊕ (Int32 × mT)), gLaw_k48 L q = some x → ∀ o, sK (fun q => Ev (d + 1) 335 18 [(0, .ref XB), (1, .ref 0), (2, .ref 294), (3, .int q.1)] [] (uS L q.2) o) (fun r => o = (some (.int r.1), uS L r.2)) x → Ev (d + 1) 335 1558 [(0, .ref XB), (1, .ref 0), (2, .ref 294), (3, .int q.1)] [] (uS L q.2) o := by
  intro q x h o ho
  unfold gLaw_k48 at h
  refine Ev.seg D_335 [(.aload_n 1, 1), (.aload_n 0, 1), (.iload_n 3, 1), (.iconst 1, 1), (.iadd, 1)] (by decide +kernel) (j := 0) (pc' := 1563) (lv' := [(0, .ref XB), (1, .ref 0), (2, .ref 294), (3, .int q.1)]) (st' := [.int (q.1 + (1 : Int32)), .ref XB, .ref 0]) rfl ?_
  obtain ⟨x1, e1, h⟩ := bd h
  refine Ev.iald D_335 (by decide +kernel) (S_aIx (by rfl) (Nat.le_refl _) e1) ?_
  obtain ⟨p2, e2, h⟩ := bd h
  refine Ev.callv D_335 E_142 (by decide +kernel) C_11_210 0 [.int x1] (r := []) rfl (gd_o k_0 (by decide)) rfl (Nat.le_of_ble_eq_true rfl) (Nat.le_of_ble_eq_true rfl) (gL_lure_ok (by omega)  e2) ?_
  refine Ev.seg D_335 [(.aload_n 2, 1), (.aload_n 0, 1), (.iload_n 3, 1), (.iconst 1, 1), (.iadd, 1)] (by decide +kernel) (j := 0) (pc' := 1572) (lv' := [(0, .ref XB), (1, .ref 0), (2, .ref 294), (3, .int q.1)]) (st' := [.int (q.1 + (1 : Int32)), .ref XB, .ref 294, .int p2.1]) rfl ?_
  obtain ⟨x3, e3, h⟩ := bd h
  refine Ev.iald D_335 (by decide +kernel) (S_aIx (by rfl) (Nat.le_refl _) e3) ?_
  obtain ⟨p4, e4, h⟩ := bd h
  refine Ev.callv D_335 E_285 (by decide +kernel) C_11_213 294 [.int x3] (r := [.int p2.1]) rfl (gd_o k_294 (by decide)) rfl (Nat.le_of_ble_eq_true rfl) (Nat.le_of_ble_eq_true rfl) (gM_lure_ok (by omega)  e4) ?_
  refine Ev.icmp D_335 (c := .eq) (off := 812) (by decide +kernel) (t := 2388) rfl (fun c5 => ?_) (fun c5 => ?_)
  · have c5 : p2.1 = p4.1 := of_decide_eq_true c5
    rw [if_pos c5] at h
    refine Ev.seg D_335 [(.iinc 3 6, 3), (.goto (-2373), 3)] (by decide +kernel) (j := 0) (pc' := 18) (lv' := [(3, .int (q.1 + (6 : Int32))), (0, .ref XB), (1, .ref 0), (2, .ref 294)]) (st' := []) rfl ?_
    cases h
    exact Ev.sub (lv' := [(0, .ref XB), (1, .ref 0), (2, .ref 294), (3, .int (q.1 + (6 : Int32)))]) (subL_cons rfl (subL_cons rfl (subL_cons rfl (subL_cons rfl subL_nil)))) ho
  · have c5 : ¬ p2.1 = p4.1 := of_decide_eq_false c5
    rw [if_neg c5] at h
    refine Ev.seg D_335 [(.iconst 0, 1)] (by decide +kernel) (j := 0) (pc' := 1580) (lv' := [(0, .ref XB), (1, .ref 0), (2, .ref 294), (3, .int q.1)]) (st' := [.int (0 : Int32)]) rfl ?_
    cases h
    obtain rfl : o = _ := ho
    exact Ev.zret D_335 (by decide) (by decide +kernel)
def gLaw_k49 (L : Nat) (q : Int32 × mT) : Option ((Int32 × mT) ⊕ (Int32 × mT)) :=
  (gL_cover q.2).bind fun p1 =>
  (gM_cover q.2).bind fun p2 =>
  if p1 = p2 then
    some (.inl (q.1 + (6 : Int32), q.2))
  else
    some (.inr (((0 : Int32), q.2)))
set_option maxRecDepth 8000 in
theorem gLaw_k49_ok {L d : Nat} (hd : 13 ≤ d + 1) : ∀ (q : Int32 × mT) (x : (Int32 × mT) ⊕ (Int32 × mT)), gLaw_k49 L q = some x → ∀ o, sK (fun q => Ev (d + 1) 335 18 [(0, .ref XB), (1, .ref 0), (2, .ref 294), (3, .int q.1)] [] (uS L q.2) o) (fun r => o = (some (.int r.1), uS L r.2)) x → Ev (d + 1) 335 1581 [(0, .ref XB), (1, .ref 0), (2, .ref 294), (3, .int q.1)] [] (uS L q.2) o := by
  intro q x h o ho
  unfold gLaw_k49 at h
  refine Ev.seg D_335 [(.aload_n 1, 1)] (by decide +kernel) (j := 0) (pc' := 1582) (lv' := [(0, .ref XB), (1, .ref 0), (2, .ref 294), (3, .int q.1)]) (st' := [.ref 0]) rfl ?_
  obtain ⟨p1, e1, h⟩ := bd h
  refine Ev.callv D_335 E_143 (by decide +kernel) C_11_214 0 [] (r := []) rfl (gd_o k_0 (by decide)) rfl (Nat.le_of_ble_eq_true rfl) (Nat.le_of_ble_eq_true rfl) (gL_cover_ok (by omega)  e1) ?_
  refine Ev.seg D_335 [(.aload_n 2, 1)] (by decide +kernel) (j := 0) (pc' := 1586) (lv' := [(0, .ref XB), (1, .ref 0), (2, .ref 294), (3, .int q.1)]) (st' := [.ref 294, .int p1]) rfl ?_
  obtain ⟨p2, e2, h⟩ := bd h
  refine Ev.callv D_335 E_286 (by decide +kernel) C_11_217 294 [] (r := [.int p1]) rfl (gd_o k_294 (by decide)) rfl (Nat.le_of_ble_eq_true rfl) (Nat.le_of_ble_eq_true rfl) (gM_cover_ok (by omega)  e2) ?_
  refine Ev.icmp D_335 (c := .eq) (off := 799) (by decide +kernel) (t := 2388) rfl (fun c3 => ?_) (fun c3 => ?_)
  · have c3 : p1 = p2 := of_decide_eq_true c3
    rw [if_pos c3] at h
    refine Ev.seg D_335 [(.iinc 3 6, 3), (.goto (-2373), 3)] (by decide +kernel) (j := 0) (pc' := 18) (lv' := [(3, .int (q.1 + (6 : Int32))), (0, .ref XB), (1, .ref 0), (2, .ref 294)]) (st' := []) rfl ?_
    cases h
    exact Ev.sub (lv' := [(0, .ref XB), (1, .ref 0), (2, .ref 294), (3, .int (q.1 + (6 : Int32)))]) (subL_cons rfl (subL_cons rfl (subL_cons rfl (subL_cons rfl subL_nil)))) ho
  · have c3 : ¬ p1 = p2 := of_decide_eq_false c3
    rw [if_neg c3] at h
    refine Ev.seg D_335 [(.iconst 0, 1)] (by decide +kernel) (j := 0) (pc' := 1593) (lv' := [(0, .ref XB), (1, .ref 0), (2, .ref 294), (3, .int q.1)]) (st' := [.int (0 : Int32)]) rfl ?_
    cases h
    obtain rfl : o = _ := ho
    exact Ev.zret D_335 (by decide) (by decide +kernel)
def gLaw_k50 (L : Nat) (q : Int32 × mT) : Option ((Int32 × mT) ⊕ (Int32 × mT)) :=
  (gL_covers q.2).bind fun p1 =>
  (gM_covers q.2).bind fun p2 =>
  if p1 = p2 then
    some (.inl (q.1 + (6 : Int32), q.2))
  else
    some (.inr (((0 : Int32), q.2)))
set_option maxRecDepth 8000 in
theorem gLaw_k50_ok {L d : Nat} (hd : 13 ≤ d + 1) : ∀ (q : Int32 × mT) (x : (Int32 × mT) ⊕ (Int32 × mT)), gLaw_k50 L q = some x → ∀ o, sK (fun q => Ev (d + 1) 335 18 [(0, .ref XB), (1, .ref 0), (2, .ref 294), (3, .int q.1)] [] (uS L q.2) o) (fun r => o = (some (.int r.1), uS L r.2)) x → Ev (d + 1) 335 1594 [(0, .ref XB), (1, .ref 0), (2, .ref 294), (3, .int q.1)] [] (uS L q.2) o := by
  intro q x h o ho
  unfold gLaw_k50 at h
  refine Ev.seg D_335 [(.aload_n 1, 1)] (by decide +kernel) (j := 0) (pc' := 1595) (lv' := [(0, .ref XB), (1, .ref 0), (2, .ref 294), (3, .int q.1)]) (st' := [.ref 0]) rfl ?_
  obtain ⟨p1, e1, h⟩ := bd h
  refine Ev.callv D_335 E_146 (by decide +kernel) C_11_218 0 [] (r := []) rfl (gd_o k_0 (by decide)) rfl (Nat.le_of_ble_eq_true rfl) (Nat.le_of_ble_eq_true rfl) (gL_covers_ok (by omega)  e1) ?_
  refine Ev.seg D_335 [(.aload_n 2, 1)] (by decide +kernel) (j := 0) (pc' := 1599) (lv' := [(0, .ref XB), (1, .ref 0), (2, .ref 294), (3, .int q.1)]) (st' := [.ref 294, .int p1]) rfl ?_
  obtain ⟨p2, e2, h⟩ := bd h
  refine Ev.callv D_335 E_288 (by decide +kernel) C_11_221 294 [] (r := [.int p1]) rfl (gd_o k_294 (by decide)) rfl (Nat.le_of_ble_eq_true rfl) (Nat.le_of_ble_eq_true rfl) (gM_covers_ok (by omega)  e2) ?_
  refine Ev.icmp D_335 (c := .eq) (off := 786) (by decide +kernel) (t := 2388) rfl (fun c3 => ?_) (fun c3 => ?_)
  · have c3 : p1 = p2 := of_decide_eq_true c3
    rw [if_pos c3] at h
    refine Ev.seg D_335 [(.iinc 3 6, 3), (.goto (-2373), 3)] (by decide +kernel) (j := 0) (pc' := 18) (lv' := [(3, .int (q.1 + (6 : Int32))), (0, .ref XB), (1, .ref 0), (2, .ref 294)]) (st' := []) rfl ?_
    cases h
    exact Ev.sub (lv' := [(0, .ref XB), (1, .ref 0), (2, .ref 294), (3, .int (q.1 + (6 : Int32)))]) (subL_cons rfl (subL_cons rfl (subL_cons rfl (subL_cons rfl subL_nil)))) ho
  · have c3 : ¬ p1 = p2 := of_decide_eq_false c3
    rw [if_neg c3] at h
    refine Ev.seg D_335 [(.iconst 0, 1)] (by decide +kernel) (j := 0) (pc' := 1606) (lv' := [(0, .ref XB), (1, .ref 0), (2, .ref 294), (3, .int q.1)]) (st' := [.int (0 : Int32)]) rfl ?_
    cases h
    obtain rfl : o = _ := ho
    exact Ev.zret D_335 (by decide) (by decide +kernel)
def gLaw_k51 (L : Nat) (q : Int32 × mT) : Option ((Int32 × mT) ⊕ (Int32 × mT)) :=
  (rdI (q.2.1 XB) L (q.1 + (1 : Int32))).bind fun x1 =>
  (gL_fits x1 q.2).bind fun p2 =>
  (rdI (p2.2.1 XB) L (q.1 + (1 : Int32))).bind fun x3 =>
  (gM_fits x3 p2.2).bind fun p4 =>
  if p2.1 = p4.1 then
    some (.inl (q.1 + (6 : Int32), p4.2))
  else
    some (.inr (((0 : Int32), p4.2)))
set_option maxRecDepth 8000 in
theorem gLaw_k51_ok {L d : Nat} (hd : 13 ≤ d + 1) : ∀ (q : Int32 × mT) (x : (Int32 × mT) ⊕ (Int32 × mT)), gLaw_k51 L q = some x → ∀ o, sK (fun q => Ev (d + 1) 335 18 [(0, .ref XB), (1, .ref 0), (2, .ref 294), (3, .int q.1)] [] (uS L q.2) o) (fun r => o = (some (.int r.1), uS L r.2)) x → Ev (d + 1) 335 1607 [(0, .ref XB), (1, .ref 0), (2, .ref 294), (3, .int q.1)] [] (uS L q.2) o := by
  intro q x h o ho
  unfold gLaw_k51 at h
  refine Ev.seg D_335 [(.aload_n 1, 1), (.aload_n 0, 1), (.iload_n 3, 1), (.iconst 1, 1), (.iadd, 1)] (by decide +kernel) (j := 0) (pc' := 1612) (lv' := [(0, .ref XB), (1, .ref 0), (2, .ref 294), (3, .int q.1)]) (st' := [.int (q.1 + (1 : Int32)), .ref XB, .ref 0]) rfl ?_
  obtain ⟨x1, e1, h⟩ := bd h
  refine Ev.iald D_335 (by decide +kernel) (S_aIx (by rfl) (Nat.le_refl _) e1) ?_
  obtain ⟨p2, e2, h⟩ := bd h
  refine Ev.callv D_335 E_147 (by decide +kernel) C_11_222 0 [.int x1] (r := []) rfl (gd_o k_0 (by decide)) rfl (Nat.le_of_ble_eq_true rfl) (Nat.le_of_ble_eq_true rfl) (gL_fits_ok (by omega)  e2) ?_
  refine Ev.seg D_335 [(.aload_n 2, 1), (.aload_n 0, 1), (.iload_n 3, 1), (.iconst 1, 1), (.iadd, 1)] (by decide +kernel) (j := 0) (pc' := 1621) (lv' := [(0, .ref XB), (1, .ref 0), (2, .ref 294), (3, .int q.1)]) (st' := [.int (q.1 + (1 : Int32)), .ref XB, .ref 294, .int p2.1]) rfl ?_
  obtain ⟨x3, e3, h⟩ := bd h
  refine Ev.iald D_335 (by decide +kernel) (S_aIx (by rfl) (Nat.le_refl _) e3) ?_
  obtain ⟨p4, e4, h⟩ := bd h
  refine Ev.callv D_335 E_289 (by decide +kernel) C_11_225 294 [.int x3] (r := [.int p2.1]) rfl (gd_o k_294 (by decide)) rfl (Nat.le_of_ble_eq_true rfl) (Nat.le_of_ble_eq_true rfl) (gM_fits_ok (by omega)  e4) ?_
  refine Ev.icmp D_335 (c := .eq) (off := 763) (by decide +kernel) (t := 2388) rfl (fun c5 => ?_) (fun c5 => ?_)
  · have c5 : p2.1 = p4.1 := of_decide_eq_true c5
    rw [if_pos c5] at h
    refine Ev.seg D_335 [(.iinc 3 6, 3), (.goto (-2373), 3)] (by decide +kernel) (j := 0) (pc' := 18) (lv' := [(3, .int (q.1 + (6 : Int32))), (0, .ref XB), (1, .ref 0), (2, .ref 294)]) (st' := []) rfl ?_
    cases h
    exact Ev.sub (lv' := [(0, .ref XB), (1, .ref 0), (2, .ref 294), (3, .int (q.1 + (6 : Int32)))]) (subL_cons rfl (subL_cons rfl (subL_cons rfl (subL_cons rfl subL_nil)))) ho
  · have c5 : ¬ p2.1 = p4.1 := of_decide_eq_false c5
    rw [if_neg c5] at h
    refine Ev.seg D_335 [(.iconst 0, 1)] (by decide +kernel) (j := 0) (pc' := 1629) (lv' := [(0, .ref XB), (1, .ref 0), (2, .ref 294), (3, .int q.1)]) (st' := [.int (0 : Int32)]) rfl ?_
    cases h
    obtain rfl : o = _ := ho
    exact Ev.zret D_335 (by decide) (by decide +kernel)
def gLaw_k52 (L : Nat) (q : Int32 × mT) : Option ((Int32 × mT) ⊕ (Int32 × mT)) :=
  (rdI (q.2.1 XB) L (q.1 + (1 : Int32))).bind fun x1 =>
  (rdI (q.2.1 XB) L (q.1 + (2 : Int32))).bind fun x2 =>
  (gL_may x1 x2 q.2).bind fun p3 =>
  (rdI (p3.2.1 XB) L (q.1 + (1 : Int32))).bind fun x4 =>
  (rdI (p3.2.1 XB) L (q.1 + (2 : Int32))).bind fun x5 =>
  (gM_may x4 x5 p3.2).bind fun p6 =>
  if p3.1 = p6.1 then
    some (.inl (q.1 + (6 : Int32), p6.2))
  else
    some (.inr (((0 : Int32), p6.2)))
set_option maxRecDepth 8000 in
theorem gLaw_k52_ok {L d : Nat} (hd : 13 ≤ d + 1) : ∀ (q : Int32 × mT) (x : (Int32 × mT) ⊕ (Int32 × mT)), gLaw_k52 L q = some x → ∀ o, sK (fun q => Ev (d + 1) 335 18 [(0, .ref XB), (1, .ref 0), (2, .ref 294), (3, .int q.1)] [] (uS L q.2) o) (fun r => o = (some (.int r.1), uS L r.2)) x → Ev (d + 1) 335 1630 [(0, .ref XB), (1, .ref 0), (2, .ref 294), (3, .int q.1)] [] (uS L q.2) o := by
  intro q x h o ho
  unfold gLaw_k52 at h
  refine Ev.seg D_335 [(.aload_n 1, 1), (.aload_n 0, 1), (.iload_n 3, 1), (.iconst 1, 1), (.iadd, 1)] (by decide +kernel) (j := 0) (pc' := 1635) (lv' := [(0, .ref XB), (1, .ref 0), (2, .ref 294), (3, .int q.1)]) (st' := [.int (q.1 + (1 : Int32)), .ref XB, .ref 0]) rfl ?_
  obtain ⟨x1, e1, h⟩ := bd h
  refine Ev.iald D_335 (by decide +kernel) (S_aIx (by rfl) (Nat.le_refl _) e1) ?_
  refine Ev.seg D_335 [(.aload_n 0, 1), (.iload_n 3, 1), (.iconst 2, 1), (.iadd, 1)] (by decide +kernel) (j := 0) (pc' := 1640) (lv' := [(0, .ref XB), (1, .ref 0), (2, .ref 294), (3, .int q.1)]) (st' := [.int (q.1 + (2 : Int32)), .ref XB, .int x1, .ref 0]) rfl ?_
  obtain ⟨x2, e2, h⟩ := bd h
  refine Ev.iald D_335 (by decide +kernel) (S_aIx (by rfl) (Nat.le_refl _) e2) ?_
  obtain ⟨p3, e3, h⟩ := bd h
  refine Ev.callv D_335 E_150 (by decide +kernel) C_11_226 0 [.int x1, .int x2] (r := []) rfl (gd_o k_0 (by decide)) rfl (Nat.le_of_ble_eq_true rfl) (Nat.le_of_ble_eq_true rfl) (gL_may_ok (by omega)  e3) ?_
  refine Ev.seg D_335 [(.aload_n 2, 1), (.aload_n 0, 1), (.iload_n 3, 1), (.iconst 1, 1), (.iadd, 1)] (by decide +kernel) (j := 0) (pc' := 1649) (lv' := [(0, .ref XB), (1, .ref 0), (2, .ref 294), (3, .int q.1)]) (st' := [.int (q.1 + (1 : Int32)), .ref XB, .ref 294, .int p3.1]) rfl ?_
  obtain ⟨x4, e4, h⟩ := bd h
  refine Ev.iald D_335 (by decide +kernel) (S_aIx (by rfl) (Nat.le_refl _) e4) ?_
  refine Ev.seg D_335 [(.aload_n 0, 1), (.iload_n 3, 1), (.iconst 2, 1), (.iadd, 1)] (by decide +kernel) (j := 0) (pc' := 1654) (lv' := [(0, .ref XB), (1, .ref 0), (2, .ref 294), (3, .int q.1)]) (st' := [.int (q.1 + (2 : Int32)), .ref XB, .int x4, .ref 294, .int p3.1]) rfl ?_
  obtain ⟨x5, e5, h⟩ := bd h
  refine Ev.iald D_335 (by decide +kernel) (S_aIx (by rfl) (Nat.le_refl _) e5) ?_
  obtain ⟨p6, e6, h⟩ := bd h
  refine Ev.callv D_335 E_295 (by decide +kernel) C_11_229 294 [.int x4, .int x5] (r := [.int p3.1]) rfl (gd_o k_294 (by decide)) rfl (Nat.le_of_ble_eq_true rfl) (Nat.le_of_ble_eq_true rfl) (gM_may_ok (by omega)  e6) ?_
  refine Ev.icmp D_335 (c := .eq) (off := 730) (by decide +kernel) (t := 2388) rfl (fun c7 => ?_) (fun c7 => ?_)
  · have c7 : p3.1 = p6.1 := of_decide_eq_true c7
    rw [if_pos c7] at h
    refine Ev.seg D_335 [(.iinc 3 6, 3), (.goto (-2373), 3)] (by decide +kernel) (j := 0) (pc' := 18) (lv' := [(3, .int (q.1 + (6 : Int32))), (0, .ref XB), (1, .ref 0), (2, .ref 294)]) (st' := []) rfl ?_
    cases h
    exact Ev.sub (lv' := [(0, .ref XB), (1, .ref 0), (2, .ref 294), (3, .int (q.1 + (6 : Int32)))]) (subL_cons rfl (subL_cons rfl (subL_cons rfl (subL_cons rfl subL_nil)))) ho
  · have c7 : ¬ p3.1 = p6.1 := of_decide_eq_false c7
    rw [if_neg c7] at h
    refine Ev.seg D_335 [(.iconst 0, 1)] (by decide +kernel) (j := 0) (pc' := 1662) (lv' := [(0, .ref XB), (1, .ref 0), (2, .ref 294), (3, .int q.1)]) (st' := [.int (0 : Int32)]) rfl ?_
    cases h
    obtain rfl : o = _ := ho
    exact Ev.zret D_335 (by decide) (by decide +kernel)
def gLaw_k53 (L : Nat) (q : Int32 × mT) : Option ((Int32 × mT) ⊕ (Int32 × mT)) :=
  (rdI (q.2.1 XB) L (q.1 + (1 : Int32))).bind fun x1 =>
  (gL_ask x1 q.2).bind fun p2 =>
  (rdI (p2.2.1 XB) L (q.1 + (1 : Int32))).bind fun x3 =>
  (gM_ask x3 p2.2).bind fun p4 =>
  if p2.1 = p4.1 then
    some (.inl (q.1 + (6 : Int32), p4.2))
  else
    some (.inr (((0 : Int32), p4.2)))
set_option maxRecDepth 8000 in
theorem gLaw_k53_ok {L d : Nat} (hd : 13 ≤ d + 1) : ∀ (q : Int32 × mT) (x : (Int32 × mT) ⊕ (Int32 × mT)), gLaw_k53 L q = some x → ∀ o, sK (fun q => Ev (d + 1) 335 18 [(0, .ref XB), (1, .ref 0), (2, .ref 294), (3, .int q.1)] [] (uS L q.2) o) (fun r => o = (some (.int r.1), uS L r.2)) x → Ev (d + 1) 335 1663 [(0, .ref XB), (1, .ref 0), (2, .ref 294), (3, .int q.1)] [] (uS L q.2) o := by
  intro q x h o ho
  unfold gLaw_k53 at h
  refine Ev.seg D_335 [(.aload_n 1, 1), (.aload_n 0, 1), (.iload_n 3, 1), (.iconst 1, 1), (.iadd, 1)] (by decide +kernel) (j := 0) (pc' := 1668) (lv' := [(0, .ref XB), (1, .ref 0), (2, .ref 294), (3, .int q.1)]) (st' := [.int (q.1 + (1 : Int32)), .ref XB, .ref 0]) rfl ?_
  obtain ⟨x1, e1, h⟩ := bd h
  refine Ev.iald D_335 (by decide +kernel) (S_aIx (by rfl) (Nat.le_refl _) e1) ?_
  obtain ⟨p2, e2, h⟩ := bd h
  refine Ev.callv D_335 E_151 (by decide +kernel) C_11_230 0 [.int x1] (r := []) rfl (gd_o k_0 (by decide)) rfl (Nat.le_of_ble_eq_true rfl) (Nat.le_of_ble_eq_true rfl) (gL_ask_ok (by omega)  e2) ?_
  refine Ev.seg D_335 [(.aload_n 2, 1), (.aload_n 0, 1), (.iload_n 3, 1), (.iconst 1, 1), (.iadd, 1)] (by decide +kernel) (j := 0) (pc' := 1677) (lv' := [(0, .ref XB), (1, .ref 0), (2, .ref 294), (3, .int q.1)]) (st' := [.int (q.1 + (1 : Int32)), .ref XB, .ref 294, .int p2.1]) rfl ?_
  obtain ⟨x3, e3, h⟩ := bd h
  refine Ev.iald D_335 (by decide +kernel) (S_aIx (by rfl) (Nat.le_refl _) e3) ?_
  obtain ⟨p4, e4, h⟩ := bd h
  refine Ev.callv D_335 E_296 (by decide +kernel) C_11_233 294 [.int x3] (r := [.int p2.1]) rfl (gd_o k_294 (by decide)) rfl (Nat.le_of_ble_eq_true rfl) (Nat.le_of_ble_eq_true rfl) (gM_ask_ok (by omega)  e4) ?_
  refine Ev.icmp D_335 (c := .eq) (off := 707) (by decide +kernel) (t := 2388) rfl (fun c5 => ?_) (fun c5 => ?_)
  · have c5 : p2.1 = p4.1 := of_decide_eq_true c5
    rw [if_pos c5] at h
    refine Ev.seg D_335 [(.iinc 3 6, 3), (.goto (-2373), 3)] (by decide +kernel) (j := 0) (pc' := 18) (lv' := [(3, .int (q.1 + (6 : Int32))), (0, .ref XB), (1, .ref 0), (2, .ref 294)]) (st' := []) rfl ?_
    cases h
    exact Ev.sub (lv' := [(0, .ref XB), (1, .ref 0), (2, .ref 294), (3, .int (q.1 + (6 : Int32)))]) (subL_cons rfl (subL_cons rfl (subL_cons rfl (subL_cons rfl subL_nil)))) ho
  · have c5 : ¬ p2.1 = p4.1 := of_decide_eq_false c5
    rw [if_neg c5] at h
    refine Ev.seg D_335 [(.iconst 0, 1)] (by decide +kernel) (j := 0) (pc' := 1685) (lv' := [(0, .ref XB), (1, .ref 0), (2, .ref 294), (3, .int q.1)]) (st' := [.int (0 : Int32)]) rfl ?_
    cases h
    obtain rfl : o = _ := ho
    exact Ev.zret D_335 (by decide) (by decide +kernel)
def gLaw_k54 (L : Nat) (q : Int32 × mT) : Option ((Int32 × mT) ⊕ (Int32 × mT)) :=
  (rdI (q.2.1 XB) L (q.1 + (1 : Int32))).bind fun x1 =>
  (gL_leaves x1 q.2).bind fun p2 =>
  (rdI (p2.2.1 XB) L (q.1 + (1 : Int32))).bind fun x3 =>
  (gM_leaves x3 p2.2).bind fun p4 =>
  if p2.1 = p4.1 then
    some (.inl (q.1 + (6 : Int32), p4.2))
  else
    some (.inr (((0 : Int32), p4.2)))
set_option maxRecDepth 8000 in
theorem gLaw_k54_ok {L d : Nat} (hd : 13 ≤ d + 1) : ∀ (q : Int32 × mT) (x : (Int32 × mT) ⊕ (Int32 × mT)), gLaw_k54 L q = some x → ∀ o, sK (fun q => Ev (d + 1) 335 18 [(0, .ref XB), (1, .ref 0), (2, .ref 294), (3, .int q.1)] [] (uS L q.2) o) (fun r => o = (some (.int r.1), uS L r.2)) x → Ev (d + 1) 335 1686 [(0, .ref XB), (1, .ref 0), (2, .ref 294), (3, .int q.1)] [] (uS L q.2) o := by
  intro q x h o ho
  unfold gLaw_k54 at h
  refine Ev.seg D_335 [(.aload_n 1, 1), (.aload_n 0, 1), (.iload_n 3, 1), (.iconst 1, 1), (.iadd, 1)] (by decide +kernel) (j := 0) (pc' := 1691) (lv' := [(0, .ref XB), (1, .ref 0), (2, .ref 294), (3, .int q.1)]) (st' := [.int (q.1 + (1 : Int32)), .ref XB, .ref 0]) rfl ?_
  obtain ⟨x1, e1, h⟩ := bd h
  refine Ev.iald D_335 (by decide +kernel) (S_aIx (by rfl) (Nat.le_refl _) e1) ?_
  obtain ⟨p2, e2, h⟩ := bd h
  refine Ev.callv D_335 E_152 (by decide +kernel) C_11_234 0 [.int x1] (r := []) rfl (gd_o k_0 (by decide)) rfl (Nat.le_of_ble_eq_true rfl) (Nat.le_of_ble_eq_true rfl) (gL_leaves_ok (by omega)  e2) ?_
  refine Ev.seg D_335 [(.aload_n 2, 1), (.aload_n 0, 1), (.iload_n 3, 1), (.iconst 1, 1), (.iadd, 1)] (by decide +kernel) (j := 0) (pc' := 1700) (lv' := [(0, .ref XB), (1, .ref 0), (2, .ref 294), (3, .int q.1)]) (st' := [.int (q.1 + (1 : Int32)), .ref XB, .ref 294, .int p2.1]) rfl ?_
  obtain ⟨x3, e3, h⟩ := bd h
  refine Ev.iald D_335 (by decide +kernel) (S_aIx (by rfl) (Nat.le_refl _) e3) ?_
  obtain ⟨p4, e4, h⟩ := bd h
  refine Ev.callv D_335 E_298 (by decide +kernel) C_11_237 294 [.int x3] (r := [.int p2.1]) rfl (gd_o k_294 (by decide)) rfl (Nat.le_of_ble_eq_true rfl) (Nat.le_of_ble_eq_true rfl) (gM_leaves_ok (by omega)  e4) ?_
  refine Ev.icmp D_335 (c := .eq) (off := 684) (by decide +kernel) (t := 2388) rfl (fun c5 => ?_) (fun c5 => ?_)
  · have c5 : p2.1 = p4.1 := of_decide_eq_true c5
    rw [if_pos c5] at h
    refine Ev.seg D_335 [(.iinc 3 6, 3), (.goto (-2373), 3)] (by decide +kernel) (j := 0) (pc' := 18) (lv' := [(3, .int (q.1 + (6 : Int32))), (0, .ref XB), (1, .ref 0), (2, .ref 294)]) (st' := []) rfl ?_
    cases h
    exact Ev.sub (lv' := [(0, .ref XB), (1, .ref 0), (2, .ref 294), (3, .int (q.1 + (6 : Int32)))]) (subL_cons rfl (subL_cons rfl (subL_cons rfl (subL_cons rfl subL_nil)))) ho
  · have c5 : ¬ p2.1 = p4.1 := of_decide_eq_false c5
    rw [if_neg c5] at h
    refine Ev.seg D_335 [(.iconst 0, 1)] (by decide +kernel) (j := 0) (pc' := 1708) (lv' := [(0, .ref XB), (1, .ref 0), (2, .ref 294), (3, .int q.1)]) (st' := [.int (0 : Int32)]) rfl ?_
    cases h
    obtain rfl : o = _ := ho
    exact Ev.zret D_335 (by decide) (by decide +kernel)
def gLaw_k55 (L : Nat) (q : Int32 × mT) : Option ((Int32 × mT) ⊕ (Int32 × mT)) :=
  (rdI (q.2.1 XB) L (q.1 + (1 : Int32))).bind fun x1 =>
  (gL_laws x1 q.2).bind fun p2 =>
  (rdI (p2.2.1 XB) L (q.1 + (1 : Int32))).bind fun x3 =>
  (gM_laws x3 p2.2).bind fun p4 =>
  if p2.1 = p4.1 then
    some (.inl (q.1 + (6 : Int32), p4.2))
  else
    some (.inr (((0 : Int32), p4.2)))
set_option maxRecDepth 8000 in
theorem gLaw_k55_ok {L d : Nat} (hd : 13 ≤ d + 1) : ∀ (q : Int32 × mT) (x : (Int32 × mT) ⊕ (Int32 × mT)), gLaw_k55 L q = some x → ∀ o, sK (fun q => Ev (d + 1) 335 18 [(0, .ref XB), (1, .ref 0), (2, .ref 294), (3, .int q.1)] [] (uS L q.2) o) (fun r => o = (some (.int r.1), uS L r.2)) x → Ev (d + 1) 335 1709 [(0, .ref XB), (1, .ref 0), (2, .ref 294), (3, .int q.1)] [] (uS L q.2) o := by
  intro q x h o ho
  unfold gLaw_k55 at h
  refine Ev.seg D_335 [(.aload_n 1, 1), (.aload_n 0, 1), (.iload_n 3, 1), (.iconst 1, 1), (.iadd, 1)] (by decide +kernel) (j := 0) (pc' := 1714) (lv' := [(0, .ref XB), (1, .ref 0), (2, .ref 294), (3, .int q.1)]) (st' := [.int (q.1 + (1 : Int32)), .ref XB, .ref 0]) rfl ?_
  obtain ⟨x1, e1, h⟩ := bd h
  refine Ev.iald D_335 (by decide +kernel) (S_aIx (by rfl) (Nat.le_refl _) e1) ?_
  obtain ⟨p2, e2, h⟩ := bd h
  refine Ev.callv D_335 E_153 (by decide +kernel) C_11_238 0 [.int x1] (r := []) rfl (gd_o k_0 (by decide)) rfl (Nat.le_of_ble_eq_true rfl) (Nat.le_of_ble_eq_true rfl) (gL_laws_ok (by omega)  e2) ?_
  refine Ev.seg D_335 [(.aload_n 2, 1), (.aload_n 0, 1), (.iload_n 3, 1), (.iconst 1, 1), (.iadd, 1)] (by decide +kernel) (j := 0) (pc' := 1723) (lv' := [(0, .ref XB), (1, .ref 0), (2, .ref 294), (3, .int q.1)]) (st' := [.int (q.1 + (1 : Int32)), .ref XB, .ref 294, .int p2.1]) rfl ?_
  obtain ⟨x3, e3, h⟩ := bd h
  refine Ev.iald D_335 (by decide +kernel) (S_aIx (by rfl) (Nat.le_refl _) e3) ?_
  obtain ⟨p4, e4, h⟩ := bd h
  refine Ev.callv D_335 E_299 (by decide +kernel) C_11_241 294 [.int x3] (r := [.int p2.1]) rfl (gd_o k_294 (by decide)) rfl (Nat.le_of_ble_eq_true rfl) (Nat.le_of_ble_eq_true rfl) (gM_laws_ok (by omega)  e4) ?_
  refine Ev.icmp D_335 (c := .eq) (off := 661) (by decide +kernel) (t := 2388) rfl (fun c5 => ?_) (fun c5 => ?_)
  · have c5 : p2.1 = p4.1 := of_decide_eq_true c5
    rw [if_pos c5] at h
    refine Ev.seg D_335 [(.iinc 3 6, 3), (.goto (-2373), 3)] (by decide +kernel) (j := 0) (pc' := 18) (lv' := [(3, .int (q.1 + (6 : Int32))), (0, .ref XB), (1, .ref 0), (2, .ref 294)]) (st' := []) rfl ?_
    cases h
    exact Ev.sub (lv' := [(0, .ref XB), (1, .ref 0), (2, .ref 294), (3, .int (q.1 + (6 : Int32)))]) (subL_cons rfl (subL_cons rfl (subL_cons rfl (subL_cons rfl subL_nil)))) ho
  · have c5 : ¬ p2.1 = p4.1 := of_decide_eq_false c5
    rw [if_neg c5] at h
    refine Ev.seg D_335 [(.iconst 0, 1)] (by decide +kernel) (j := 0) (pc' := 1731) (lv' := [(0, .ref XB), (1, .ref 0), (2, .ref 294), (3, .int q.1)]) (st' := [.int (0 : Int32)]) rfl ?_
    cases h
    obtain rfl : o = _ := ho
    exact Ev.zret D_335 (by decide) (by decide +kernel)
def gLaw_k56 (L : Nat) (q : Int32 × mT) : Option ((Int32 × mT) ⊕ (Int32 × mT)) :=
  (rdI (q.2.1 XB) L (q.1 + (1 : Int32))).bind fun x1 =>
  (rdI (q.2.1 XB) L (q.1 + (2 : Int32))).bind fun x2 =>
  (rdI (q.2.1 XB) L (q.1 + (3 : Int32))).bind fun x3 =>
  (gL_share x1 x2 x3 q.2).bind fun p4 =>
  (rdI (p4.2.1 XB) L (q.1 + (1 : Int32))).bind fun x5 =>
  (rdI (p4.2.1 XB) L (q.1 + (2 : Int32))).bind fun x6 =>
  (rdI (p4.2.1 XB) L (q.1 + (3 : Int32))).bind fun x7 =>
  (gM_share x5 x6 x7 p4.2).bind fun p8 =>
  if p4.1 = p8.1 then
    some (.inl (q.1 + (6 : Int32), p8.2))
  else
    some (.inr (((0 : Int32), p8.2)))
set_option maxRecDepth 8000 in
theorem gLaw_k56_ok {L d : Nat} (hd : 13 ≤ d + 1) : ∀ (q : Int32 × mT) (x : (Int32 × mT) ⊕ (Int32 × mT)), gLaw_k56 L q = some x → ∀ o, sK (fun q => Ev (d + 1) 335 18 [(0, .ref XB), (1, .ref 0), (2, .ref 294), (3, .int q.1)] [] (uS L q.2) o) (fun r => o = (some (.int r.1), uS L r.2)) x → Ev (d + 1) 335 1732 [(0, .ref XB), (1, .ref 0), (2, .ref 294), (3, .int q.1)] [] (uS L q.2) o := by
  intro q x h o ho
  unfold gLaw_k56 at h
  refine Ev.seg D_335 [(.aload_n 1, 1), (.aload_n 0, 1), (.iload_n 3, 1), (.iconst 1, 1), (.iadd, 1)] (by decide +kernel) (j := 0) (pc' := 1737) (lv' := [(0, .ref XB), (1, .ref 0), (2, .ref 294), (3, .int q.1)]) (st' := [.int (q.1 + (1 : Int32)), .ref XB, .ref 0]) rfl ?_
  obtain ⟨x1, e1, h⟩ := bd h
  refine Ev.iald D_335 (by decide +kernel) (S_aIx (by rfl) (Nat.le_refl _) e1) ?_
  refine Ev.seg D_335 [(.aload_n 0, 1), (.iload_n 3, 1), (.iconst 2, 1), (.iadd, 1)] (by decide +kernel) (j := 0) (pc' := 1742) (lv' := [(0, .ref XB), (1, .ref 0), (2, .ref 294), (3, .int q.1)]) (st' := [.int (q.1 + (2 : Int32)), .ref XB, .int x1, .ref 0]) rfl ?_
  obtain ⟨x2, e2, h⟩ := bd h
  refine Ev.iald D_335 (by decide +kernel) (S_aIx (by rfl) (Nat.le_refl _) e2) ?_
  refine Ev.seg D_335 [(.aload_n 0, 1), (.iload_n 3, 1), (.iconst 3, 1), (.iadd, 1)] (by decide +kernel) (j := 0) (pc' := 1747) (lv' := [(0, .ref XB), (1, .ref 0), (2, .ref 294), (3, .int q.1)]) (st' := [.int (q.1 + (3 : Int32)), .ref XB, .int x2, .int x1, .ref 0]) rfl ?_
  obtain ⟨x3, e3, h⟩ := bd h
  refine Ev.iald D_335 (by decide +kernel) (S_aIx (by rfl) (Nat.le_refl _) e3) ?_
  obtain ⟨p4, e4, h⟩ := bd h
  refine Ev.callv D_335 E_154 (by decide +kernel) C_11_242 0 [.int x1, .int x2, .int x3] (r := []) rfl (gd_o k_0 (by decide)) rfl (Nat.le_of_ble_eq_true rfl) (Nat.le_of_ble_eq_true rfl) (gL_share_ok (by omega)  e4) ?_
  refine Ev.seg D_335 [(.aload_n 2, 1), (.aload_n 0, 1), (.iload_n 3, 1), (.iconst 1, 1), (.iadd, 1)] (by decide +kernel) (j := 0) (pc' := 1756) (lv' := [(0, .ref XB), (1, .ref 0), (2, .ref 294), (3, .int q.1)]) (st' := [.int (q.1 + (1 : Int32)), .ref XB, .ref 294, .int p4.1]) rfl ?_
  obtain ⟨x5, e5, h⟩ := bd h
  refine Ev.iald D_335 (by decide +kernel) (S_aIx (by rfl) (Nat.le_refl _) e5) ?_
  refine Ev.seg D_335 [(.aload_n 0, 1), (.iload_n 3, 1), (.iconst 2, 1), (.iadd, 1)] (by decide +kernel) (j := 0) (pc' := 1761) (lv' := [(0, .ref XB), (1, .ref 0), (2, .ref 294), (3, .int q.1)]) (st' := [.int (q.1 + (2 : Int32)), .ref XB, .int x5, .ref 294, .int p4.1]) rfl ?_
  obtain ⟨x6, e6, h⟩ := bd h
  refine Ev.iald D_335 (by decide +kernel) (S_aIx (by rfl) (Nat.le_refl _) e6) ?_
  refine Ev.seg D_335 [(.aload_n 0, 1), (.iload_n 3, 1), (.iconst 3, 1), (.iadd, 1)] (by decide +kernel) (j := 0) (pc' := 1766) (lv' := [(0, .ref XB), (1, .ref 0), (2, .ref 294), (3, .int q.1)]) (st' := [.int (q.1 + (3 : Int32)), .ref XB, .int x6, .int x5, .ref 294, .int p4.1]) rfl ?_
  obtain ⟨x7, e7, h⟩ := bd h
  refine Ev.iald D_335 (by decide +kernel) (S_aIx (by rfl) (Nat.le_refl _) e7) ?_
  obtain ⟨p8, e8, h⟩ := bd h
  refine Ev.callv D_335 E_300 (by decide +kernel) C_11_245 294 [.int x5, .int x6, .int x7] (r := [.int p4.1]) rfl (gd_o k_294 (by decide)) rfl (Nat.le_of_ble_eq_true rfl) (Nat.le_of_ble_eq_true rfl) (gM_share_ok (by omega)  e8) ?_
  refine Ev.icmp D_335 (c := .eq) (off := 618) (by decide +kernel) (t := 2388) rfl (fun c9 => ?_) (fun c9 => ?_)
  · have c9 : p4.1 = p8.1 := of_decide_eq_true c9
    rw [if_pos c9] at h
    refine Ev.seg D_335 [(.iinc 3 6, 3), (.goto (-2373), 3)] (by decide +kernel) (j := 0) (pc' := 18) (lv' := [(3, .int (q.1 + (6 : Int32))), (0, .ref XB), (1, .ref 0), (2, .ref 294)]) (st' := []) rfl ?_
    cases h
    exact Ev.sub (lv' := [(0, .ref XB), (1, .ref 0), (2, .ref 294), (3, .int (q.1 + (6 : Int32)))]) (subL_cons rfl (subL_cons rfl (subL_cons rfl (subL_cons rfl subL_nil)))) ho
  · have c9 : ¬ p4.1 = p8.1 := of_decide_eq_false c9
    rw [if_neg c9] at h
    refine Ev.seg D_335 [(.iconst 0, 1)] (by decide +kernel) (j := 0) (pc' := 1774) (lv' := [(0, .ref XB), (1, .ref 0), (2, .ref 294), (3, .int q.1)]) (st' := [.int (0 : Int32)]) rfl ?_
    cases h
    obtain rfl : o = _ := ho
    exact Ev.zret D_335 (by decide) (by decide +kernel)
def gLaw_k57 (L : Nat) (q : Int32 × mT) : Option ((Int32 × mT) ⊕ (Int32 × mT)) :=
  (rdI (q.2.1 XB) L (q.1 + (1 : Int32))).bind fun x1 =>
  (rdI (q.2.1 XB) L (q.1 + (2 : Int32))).bind fun x2 =>
  (gL_rests x1 x2 q.2).bind fun p3 =>
  (rdI (p3.2.1 XB) L (q.1 + (1 : Int32))).bind fun x4 =>
  (rdI (p3.2.1 XB) L (q.1 + (2 : Int32))).bind fun x5 =>
  (gM_rests x4 x5 p3.2).bind fun p6 =>
  if p3.1 = p6.1 then
    some (.inl (q.1 + (6 : Int32), p6.2))
  else
    some (.inr (((0 : Int32), p6.2)))
set_option maxRecDepth 8000 in
theorem gLaw_k57_ok {L d : Nat} (hd : 13 ≤ d + 1) : ∀ (q : Int32 × mT) (x : (Int32 × mT) ⊕ (Int32 × mT)), gLaw_k57 L q = some x → ∀ o, sK (fun q => Ev (d + 1) 335 18 [(0, .ref XB), (1, .ref 0), (2, .ref 294), (3, .int q.1)] [] (uS L q.2) o) (fun r => o = (some (.int r.1), uS L r.2)) x → Ev (d + 1) 335 1775 [(0, .ref XB), (1, .ref 0), (2, .ref 294), (3, .int q.1)] [] (uS L q.2) o := by
  intro q x h o ho
  unfold gLaw_k57 at h
  refine Ev.seg D_335 [(.aload_n 1, 1), (.aload_n 0, 1), (.iload_n 3, 1), (.iconst 1, 1), (.iadd, 1)] (by decide +kernel) (j := 0) (pc' := 1780) (lv' := [(0, .ref XB), (1, .ref 0), (2, .ref 294), (3, .int q.1)]) (st' := [.int (q.1 + (1 : Int32)), .ref XB, .ref 0]) rfl ?_
  obtain ⟨x1, e1, h⟩ := bd h
  refine Ev.iald D_335 (by decide +kernel) (S_aIx (by rfl) (Nat.le_refl _) e1) ?_
  refine Ev.seg D_335 [(.aload_n 0, 1), (.iload_n 3, 1), (.iconst 2, 1), (.iadd, 1)] (by decide +kernel) (j := 0) (pc' := 1785) (lv' := [(0, .ref XB), (1, .ref 0), (2, .ref 294), (3, .int q.1)]) (st' := [.int (q.1 + (2 : Int32)), .ref XB, .int x1, .ref 0]) rfl ?_
  obtain ⟨x2, e2, h⟩ := bd h
  refine Ev.iald D_335 (by decide +kernel) (S_aIx (by rfl) (Nat.le_refl _) e2) ?_
  obtain ⟨p3, e3, h⟩ := bd h
  refine Ev.callv D_335 E_157 (by decide +kernel) C_11_246 0 [.int x1, .int x2] (r := []) rfl (gd_o k_0 (by decide)) rfl (Nat.le_of_ble_eq_true rfl) (Nat.le_of_ble_eq_true rfl) (gL_rests_ok (by omega)  e3) ?_
  refine Ev.seg D_335 [(.aload_n 2, 1), (.aload_n 0, 1), (.iload_n 3, 1), (.iconst 1, 1), (.iadd, 1)] (by decide +kernel) (j := 0) (pc' := 1794) (lv' := [(0, .ref XB), (1, .ref 0), (2, .ref 294), (3, .int q.1)]) (st' := [.int (q.1 + (1 : Int32)), .ref XB, .ref 294, .int p3.1]) rfl ?_
  obtain ⟨x4, e4, h⟩ := bd h
  refine Ev.iald D_335 (by decide +kernel) (S_aIx (by rfl) (Nat.le_refl _) e4) ?_
  refine Ev.seg D_335 [(.aload_n 0, 1), (.iload_n 3, 1), (.iconst 2, 1), (.iadd, 1)] (by decide +kernel) (j := 0) (pc' := 1799) (lv' := [(0, .ref XB), (1, .ref 0), (2, .ref 294), (3, .int q.1)]) (st' := [.int (q.1 + (2 : Int32)), .ref XB, .int x4, .ref 294, .int p3.1]) rfl ?_
  obtain ⟨x5, e5, h⟩ := bd h
  refine Ev.iald D_335 (by decide +kernel) (S_aIx (by rfl) (Nat.le_refl _) e5) ?_
  obtain ⟨p6, e6, h⟩ := bd h
  refine Ev.callv D_335 E_304 (by decide +kernel) C_11_249 294 [.int x4, .int x5] (r := [.int p3.1]) rfl (gd_o k_294 (by decide)) rfl (Nat.le_of_ble_eq_true rfl) (Nat.le_of_ble_eq_true rfl) (gM_rests_ok (by omega)  e6) ?_
  refine Ev.icmp D_335 (c := .eq) (off := 585) (by decide +kernel) (t := 2388) rfl (fun c7 => ?_) (fun c7 => ?_)
  · have c7 : p3.1 = p6.1 := of_decide_eq_true c7
    rw [if_pos c7] at h
    refine Ev.seg D_335 [(.iinc 3 6, 3), (.goto (-2373), 3)] (by decide +kernel) (j := 0) (pc' := 18) (lv' := [(3, .int (q.1 + (6 : Int32))), (0, .ref XB), (1, .ref 0), (2, .ref 294)]) (st' := []) rfl ?_
    cases h
    exact Ev.sub (lv' := [(0, .ref XB), (1, .ref 0), (2, .ref 294), (3, .int (q.1 + (6 : Int32)))]) (subL_cons rfl (subL_cons rfl (subL_cons rfl (subL_cons rfl subL_nil)))) ho
  · have c7 : ¬ p3.1 = p6.1 := of_decide_eq_false c7
    rw [if_neg c7] at h
    refine Ev.seg D_335 [(.iconst 0, 1)] (by decide +kernel) (j := 0) (pc' := 1807) (lv' := [(0, .ref XB), (1, .ref 0), (2, .ref 294), (3, .int q.1)]) (st' := [.int (0 : Int32)]) rfl ?_
    cases h
    obtain rfl : o = _ := ho
    exact Ev.zret D_335 (by decide) (by decide +kernel)
def gLaw_k58 (L : Nat) (q : Int32 × mT) : Option ((Int32 × mT) ⊕ (Int32 × mT)) :=
  (rdI (q.2.1 XB) L (q.1 + (1 : Int32))).bind fun x1 =>
  (rdI (q.2.1 XB) L (q.1 + (2 : Int32))).bind fun x2 =>
  (gL_rest x1 x2 q.2).bind fun p3 =>
  (rdI (p3.2.1 XB) L (q.1 + (1 : Int32))).bind fun x4 =>
  (rdI (p3.2.1 XB) L (q.1 + (2 : Int32))).bind fun x5 =>
  (gM_rest x4 x5 p3.2).bind fun p6 =>
  if p3.1 = p6.1 then
    some (.inl (q.1 + (6 : Int32), p6.2))
  else
    some (.inr (((0 : Int32), p6.2)))
set_option maxRecDepth 8000 in
theorem gLaw_k58_ok {L d : Nat} (hd : 13 ≤ d + 1) : ∀ (q : Int32 × mT) (x : (Int32 × mT) ⊕ (Int32 × mT)), gLaw_k58 L q = some x → ∀ o, sK (fun q => Ev (d + 1) 335 18 [(0, .ref XB), (1, .ref 0), (2, .ref 294), (3, .int q.1)] [] (uS L q.2) o) (fun r => o = (some (.int r.1), uS L r.2)) x → Ev (d + 1) 335 1808 [(0, .ref XB), (1, .ref 0), (2, .ref 294), (3, .int q.1)] [] (uS L q.2) o := by
  intro q x h o ho
  unfold gLaw_k58 at h
  refine Ev.seg D_335 [(.aload_n 1, 1), (.aload_n 0, 1), (.iload_n 3, 1), (.iconst 1, 1), (.iadd, 1)] (by decide +kernel) (j := 0) (pc' := 1813) (lv' := [(0, .ref XB), (1, .ref 0), (2, .ref 294), (3, .int q.1)]) (st' := [.int (q.1 + (1 : Int32)), .ref XB, .ref 0]) rfl ?_
  obtain ⟨x1, e1, h⟩ := bd h
  refine Ev.iald D_335 (by decide +kernel) (S_aIx (by rfl) (Nat.le_refl _) e1) ?_
  refine Ev.seg D_335 [(.aload_n 0, 1), (.iload_n 3, 1), (.iconst 2, 1), (.iadd, 1)] (by decide +kernel) (j := 0) (pc' := 1818) (lv' := [(0, .ref XB), (1, .ref 0), (2, .ref 294), (3, .int q.1)]) (st' := [.int (q.1 + (2 : Int32)), .ref XB, .int x1, .ref 0]) rfl ?_
  obtain ⟨x2, e2, h⟩ := bd h
  refine Ev.iald D_335 (by decide +kernel) (S_aIx (by rfl) (Nat.le_refl _) e2) ?_
  obtain ⟨p3, e3, h⟩ := bd h
  refine Ev.callv D_335 E_159 (by decide +kernel) C_11_250 0 [.int x1, .int x2] (r := []) rfl (gd_o k_0 (by decide)) rfl (Nat.le_of_ble_eq_true rfl) (Nat.le_of_ble_eq_true rfl) (gL_rest_ok (by omega)  e3) ?_
  refine Ev.seg D_335 [(.aload_n 2, 1), (.aload_n 0, 1), (.iload_n 3, 1), (.iconst 1, 1), (.iadd, 1)] (by decide +kernel) (j := 0) (pc' := 1827) (lv' := [(0, .ref XB), (1, .ref 0), (2, .ref 294), (3, .int q.1)]) (st' := [.int (q.1 + (1 : Int32)), .ref XB, .ref 294, .int p3.1]) rfl ?_
  obtain ⟨x4, e4, h⟩ := bd h
  refine Ev.iald D_335 (by decide +kernel) (S_aIx (by rfl) (Nat.le_refl _) e4) ?_
  refine Ev.seg D_335 [(.aload_n 0, 1), (.iload_n 3, 1), (.iconst 2, 1), (.iadd, 1)] (by decide +kernel) (j := 0) (pc' := 1832) (lv' := [(0, .ref XB), (1, .ref 0), (2, .ref 294), (3, .int q.1)]) (st' := [.int (q.1 + (2 : Int32)), .ref XB, .int x4, .ref 294, .int p3.1]) rfl ?_
  obtain ⟨x5, e5, h⟩ := bd h
  refine Ev.iald D_335 (by decide +kernel) (S_aIx (by rfl) (Nat.le_refl _) e5) ?_
  obtain ⟨p6, e6, h⟩ := bd h
  refine Ev.callv D_335 E_307 (by decide +kernel) C_11_253 294 [.int x4, .int x5] (r := [.int p3.1]) rfl (gd_o k_294 (by decide)) rfl (Nat.le_of_ble_eq_true rfl) (Nat.le_of_ble_eq_true rfl) (gM_rest_ok (by omega)  e6) ?_
  refine Ev.icmp D_335 (c := .eq) (off := 552) (by decide +kernel) (t := 2388) rfl (fun c7 => ?_) (fun c7 => ?_)
  · have c7 : p3.1 = p6.1 := of_decide_eq_true c7
    rw [if_pos c7] at h
    refine Ev.seg D_335 [(.iinc 3 6, 3), (.goto (-2373), 3)] (by decide +kernel) (j := 0) (pc' := 18) (lv' := [(3, .int (q.1 + (6 : Int32))), (0, .ref XB), (1, .ref 0), (2, .ref 294)]) (st' := []) rfl ?_
    cases h
    exact Ev.sub (lv' := [(0, .ref XB), (1, .ref 0), (2, .ref 294), (3, .int (q.1 + (6 : Int32)))]) (subL_cons rfl (subL_cons rfl (subL_cons rfl (subL_cons rfl subL_nil)))) ho
  · have c7 : ¬ p3.1 = p6.1 := of_decide_eq_false c7
    rw [if_neg c7] at h
    refine Ev.seg D_335 [(.iconst 0, 1)] (by decide +kernel) (j := 0) (pc' := 1840) (lv' := [(0, .ref XB), (1, .ref 0), (2, .ref 294), (3, .int q.1)]) (st' := [.int (0 : Int32)]) rfl ?_
    cases h
    obtain rfl : o = _ := ho
    exact Ev.zret D_335 (by decide) (by decide +kernel)
def gLaw_k59 (L : Nat) (q : Int32 × mT) : Option ((Int32 × mT) ⊕ (Int32 × mT)) :=
  (rdI (q.2.1 XB) L (q.1 + (1 : Int32))).bind fun x1 =>
  (rdI (q.2.1 XB) L (q.1 + (2 : Int32))).bind fun x2 =>
  (rdI (q.2.1 XB) L (q.1 + (3 : Int32))).bind fun x3 =>
  (gL_chance x1 x2 x3 q.2).bind fun p4 =>
  (rdI (p4.2.1 XB) L (q.1 + (1 : Int32))).bind fun x5 =>
  (rdI (p4.2.1 XB) L (q.1 + (2 : Int32))).bind fun x6 =>
  (rdI (p4.2.1 XB) L (q.1 + (3 : Int32))).bind fun x7 =>
  (gM_chance x5 x6 x7 p4.2).bind fun p8 =>
  if (lg_cmp p4.1 p8.1) = 0 then
    some (.inl (q.1 + (6 : Int32), p8.2))
  else
    some (.inr (((0 : Int32), p8.2)))
set_option maxRecDepth 8000 in
theorem gLaw_k59_ok {L d : Nat} (hd : 13 ≤ d + 1) : ∀ (q : Int32 × mT) (x : (Int32 × mT) ⊕ (Int32 × mT)), gLaw_k59 L q = some x → ∀ o, sK (fun q => Ev (d + 1) 335 18 [(0, .ref XB), (1, .ref 0), (2, .ref 294), (3, .int q.1)] [] (uS L q.2) o) (fun r => o = (some (.int r.1), uS L r.2)) x → Ev (d + 1) 335 1841 [(0, .ref XB), (1, .ref 0), (2, .ref 294), (3, .int q.1)] [] (uS L q.2) o := by
  intro q x h o ho
  unfold gLaw_k59 at h
  refine Ev.seg D_335 [(.aload_n 1, 1), (.aload_n 0, 1), (.iload_n 3, 1), (.iconst 1, 1), (.iadd, 1)] (by decide +kernel) (j := 0) (pc' := 1846) (lv' := [(0, .ref XB), (1, .ref 0), (2, .ref 294), (3, .int q.1)]) (st' := [.int (q.1 + (1 : Int32)), .ref XB, .ref 0]) rfl ?_
  obtain ⟨x1, e1, h⟩ := bd h
  refine Ev.iald D_335 (by decide +kernel) (S_aIx (by rfl) (Nat.le_refl _) e1) ?_
  refine Ev.seg D_335 [(.aload_n 0, 1), (.iload_n 3, 1), (.iconst 2, 1), (.iadd, 1)] (by decide +kernel) (j := 0) (pc' := 1851) (lv' := [(0, .ref XB), (1, .ref 0), (2, .ref 294), (3, .int q.1)]) (st' := [.int (q.1 + (2 : Int32)), .ref XB, .int x1, .ref 0]) rfl ?_
  obtain ⟨x2, e2, h⟩ := bd h
  refine Ev.iald D_335 (by decide +kernel) (S_aIx (by rfl) (Nat.le_refl _) e2) ?_
  refine Ev.seg D_335 [(.aload_n 0, 1), (.iload_n 3, 1), (.iconst 3, 1), (.iadd, 1)] (by decide +kernel) (j := 0) (pc' := 1856) (lv' := [(0, .ref XB), (1, .ref 0), (2, .ref 294), (3, .int q.1)]) (st' := [.int (q.1 + (3 : Int32)), .ref XB, .int x2, .int x1, .ref 0]) rfl ?_
  obtain ⟨x3, e3, h⟩ := bd h
  refine Ev.iald D_335 (by decide +kernel) (S_aIx (by rfl) (Nat.le_refl _) e3) ?_
  obtain ⟨p4, e4, h⟩ := bd h
  refine Ev.callv D_335 E_160 (by decide +kernel) C_11_254 0 [.int x1, .int x2, .int x3] (r := []) rfl (gd_o k_0 (by decide)) rfl (Nat.le_of_ble_eq_true rfl) (Nat.le_of_ble_eq_true rfl) (gL_chance_ok (by omega)  e4) ?_
  refine Ev.seg D_335 [(.aload_n 2, 1), (.aload_n 0, 1), (.iload_n 3, 1), (.iconst 1, 1), (.iadd, 1)] (by decide +kernel) (j := 0) (pc' := 1865) (lv' := [(0, .ref XB), (1, .ref 0), (2, .ref 294), (3, .int q.1)]) (st' := [.int (q.1 + (1 : Int32)), .ref XB, .ref 294, .long p4.1]) rfl ?_
  obtain ⟨x5, e5, h⟩ := bd h
  refine Ev.iald D_335 (by decide +kernel) (S_aIx (by rfl) (Nat.le_refl _) e5) ?_
  refine Ev.seg D_335 [(.aload_n 0, 1), (.iload_n 3, 1), (.iconst 2, 1), (.iadd, 1)] (by decide +kernel) (j := 0) (pc' := 1870) (lv' := [(0, .ref XB), (1, .ref 0), (2, .ref 294), (3, .int q.1)]) (st' := [.int (q.1 + (2 : Int32)), .ref XB, .int x5, .ref 294, .long p4.1]) rfl ?_
  obtain ⟨x6, e6, h⟩ := bd h
  refine Ev.iald D_335 (by decide +kernel) (S_aIx (by rfl) (Nat.le_refl _) e6) ?_
  refine Ev.seg D_335 [(.aload_n 0, 1), (.iload_n 3, 1), (.iconst 3, 1), (.iadd, 1)] (by decide +kernel) (j := 0) (pc' := 1875) (lv' := [(0, .ref XB), (1, .ref 0), (2, .ref 294), (3, .int q.1)]) (st' := [.int (q.1 + (3 : Int32)), .ref XB, .int x6, .int x5, .ref 294, .long p4.1]) rfl ?_
  obtain ⟨x7, e7, h⟩ := bd h
  refine Ev.iald D_335 (by decide +kernel) (S_aIx (by rfl) (Nat.le_refl _) e7) ?_
  obtain ⟨p8, e8, h⟩ := bd h
  refine Ev.callv D_335 E_308 (by decide +kernel) C_11_258 294 [.int x5, .int x6, .int x7] (r := [.long p4.1]) rfl (gd_o k_294 (by decide)) rfl (Nat.le_of_ble_eq_true rfl) (Nat.le_of_ble_eq_true rfl) (gM_chance_ok (by omega)  e8) ?_
  refine Ev.seg D_335 [(.lcmp, 1)] (by decide +kernel) (j := 0) (pc' := 1880) (lv' := [(0, .ref XB), (1, .ref 0), (2, .ref 294), (3, .int q.1)]) (st' := [.int (lg_cmp p4.1 p8.1)]) rfl ?_
  refine Ev.if_ D_335 (c := .eq) (off := 508) (by decide +kernel) (t := 2388) rfl (fun c9 => ?_) (fun c9 => ?_)
  · have c9 : (lg_cmp p4.1 p8.1) = 0 := of_decide_eq_true c9
    rw [if_pos c9] at h
    refine Ev.seg D_335 [(.iinc 3 6, 3), (.goto (-2373), 3)] (by decide +kernel) (j := 0) (pc' := 18) (lv' := [(3, .int (q.1 + (6 : Int32))), (0, .ref XB), (1, .ref 0), (2, .ref 294)]) (st' := []) rfl ?_
    cases h
    exact Ev.sub (lv' := [(0, .ref XB), (1, .ref 0), (2, .ref 294), (3, .int (q.1 + (6 : Int32)))]) (subL_cons rfl (subL_cons rfl (subL_cons rfl (subL_cons rfl subL_nil)))) ho
  · have c9 : ¬ (lg_cmp p4.1 p8.1) = 0 := of_decide_eq_false c9
    rw [if_neg c9] at h
    refine Ev.seg D_335 [(.iconst 0, 1)] (by decide +kernel) (j := 0) (pc' := 1884) (lv' := [(0, .ref XB), (1, .ref 0), (2, .ref 294), (3, .int q.1)]) (st' := [.int (0 : Int32)]) rfl ?_
    cases h
    obtain rfl : o = _ := ho
    exact Ev.zret D_335 (by decide) (by decide +kernel)
def gLaw_k60 (L : Nat) (q : Int32 × mT) : Option ((Int32 × mT) ⊕ (Int32 × mT)) :=
  (rdI (q.2.1 XB) L (q.1 + (1 : Int32))).bind fun x1 =>
  (rdI (q.2.1 XB) L (q.1 + (2 : Int32))).bind fun x2 =>
  (rdI (q.2.1 XB) L (q.1 + (3 : Int32))).bind fun x3 =>
  (gL_mean x1 x2 x3 q.2).bind fun p4 =>
  (rdI (p4.2.1 XB) L (q.1 + (1 : Int32))).bind fun x5 =>
  (rdI (p4.2.1 XB) L (q.1 + (2 : Int32))).bind fun x6 =>
  (rdI (p4.2.1 XB) L (q.1 + (3 : Int32))).bind fun x7 =>
  (gM_mean x5 x6 x7 p4.2).bind fun p8 =>
  if (lg_cmp p4.1 p8.1) = 0 then
    some (.inl (q.1 + (6 : Int32), p8.2))
  else
    some (.inr (((0 : Int32), p8.2)))
set_option maxRecDepth 8000 in
theorem gLaw_k60_ok {L d : Nat} (hd : 13 ≤ d + 1) : ∀ (q : Int32 × mT) (x : (Int32 × mT) ⊕ (Int32 × mT)), gLaw_k60 L q = some x → ∀ o, sK (fun q => Ev (d + 1) 335 18 [(0, .ref XB), (1, .ref 0), (2, .ref 294), (3, .int q.1)] [] (uS L q.2) o) (fun r => o = (some (.int r.1), uS L r.2)) x → Ev (d + 1) 335 1885 [(0, .ref XB), (1, .ref 0), (2, .ref 294), (3, .int q.1)] [] (uS L q.2) o := by
  intro q x h o ho
  unfold gLaw_k60 at h
  refine Ev.seg D_335 [(.aload_n 1, 1), (.aload_n 0, 1), (.iload_n 3, 1), (.iconst 1, 1), (.iadd, 1)] (by decide +kernel) (j := 0) (pc' := 1890) (lv' := [(0, .ref XB), (1, .ref 0), (2, .ref 294), (3, .int q.1)]) (st' := [.int (q.1 + (1 : Int32)), .ref XB, .ref 0]) rfl ?_
  obtain ⟨x1, e1, h⟩ := bd h
  refine Ev.iald D_335 (by decide +kernel) (S_aIx (by rfl) (Nat.le_refl _) e1) ?_
  refine Ev.seg D_335 [(.aload_n 0, 1), (.iload_n 3, 1), (.iconst 2, 1), (.iadd, 1)] (by decide +kernel) (j := 0) (pc' := 1895) (lv' := [(0, .ref XB), (1, .ref 0), (2, .ref 294), (3, .int q.1)]) (st' := [.int (q.1 + (2 : Int32)), .ref XB, .int x1, .ref 0]) rfl ?_
  obtain ⟨x2, e2, h⟩ := bd h
  refine Ev.iald D_335 (by decide +kernel) (S_aIx (by rfl) (Nat.le_refl _) e2) ?_
  refine Ev.seg D_335 [(.aload_n 0, 1), (.iload_n 3, 1), (.iconst 3, 1), (.iadd, 1)] (by decide +kernel) (j := 0) (pc' := 1900) (lv' := [(0, .ref XB), (1, .ref 0), (2, .ref 294), (3, .int q.1)]) (st' := [.int (q.1 + (3 : Int32)), .ref XB, .int x2, .int x1, .ref 0]) rfl ?_
  obtain ⟨x3, e3, h⟩ := bd h
  refine Ev.iald D_335 (by decide +kernel) (S_aIx (by rfl) (Nat.le_refl _) e3) ?_
  obtain ⟨p4, e4, h⟩ := bd h
  refine Ev.callv D_335 E_164 (by decide +kernel) C_11_259 0 [.int x1, .int x2, .int x3] (r := []) rfl (gd_o k_0 (by decide)) rfl (Nat.le_of_ble_eq_true rfl) (Nat.le_of_ble_eq_true rfl) (gL_mean_ok (by omega)  e4) ?_
  refine Ev.seg D_335 [(.aload_n 2, 1), (.aload_n 0, 1), (.iload_n 3, 1), (.iconst 1, 1), (.iadd, 1)] (by decide +kernel) (j := 0) (pc' := 1909) (lv' := [(0, .ref XB), (1, .ref 0), (2, .ref 294), (3, .int q.1)]) (st' := [.int (q.1 + (1 : Int32)), .ref XB, .ref 294, .long p4.1]) rfl ?_
  obtain ⟨x5, e5, h⟩ := bd h
  refine Ev.iald D_335 (by decide +kernel) (S_aIx (by rfl) (Nat.le_refl _) e5) ?_
  refine Ev.seg D_335 [(.aload_n 0, 1), (.iload_n 3, 1), (.iconst 2, 1), (.iadd, 1)] (by decide +kernel) (j := 0) (pc' := 1914) (lv' := [(0, .ref XB), (1, .ref 0), (2, .ref 294), (3, .int q.1)]) (st' := [.int (q.1 + (2 : Int32)), .ref XB, .int x5, .ref 294, .long p4.1]) rfl ?_
  obtain ⟨x6, e6, h⟩ := bd h
  refine Ev.iald D_335 (by decide +kernel) (S_aIx (by rfl) (Nat.le_refl _) e6) ?_
  refine Ev.seg D_335 [(.aload_n 0, 1), (.iload_n 3, 1), (.iconst 3, 1), (.iadd, 1)] (by decide +kernel) (j := 0) (pc' := 1919) (lv' := [(0, .ref XB), (1, .ref 0), (2, .ref 294), (3, .int q.1)]) (st' := [.int (q.1 + (3 : Int32)), .ref XB, .int x6, .int x5, .ref 294, .long p4.1]) rfl ?_
  obtain ⟨x7, e7, h⟩ := bd h
  refine Ev.iald D_335 (by decide +kernel) (S_aIx (by rfl) (Nat.le_refl _) e7) ?_
  obtain ⟨p8, e8, h⟩ := bd h
  refine Ev.callv D_335 E_311 (by decide +kernel) C_11_262 294 [.int x5, .int x6, .int x7] (r := [.long p4.1]) rfl (gd_o k_294 (by decide)) rfl (Nat.le_of_ble_eq_true rfl) (Nat.le_of_ble_eq_true rfl) (gM_mean_ok (by omega)  e8) ?_
  refine Ev.seg D_335 [(.lcmp, 1)] (by decide +kernel) (j := 0) (pc' := 1924) (lv' := [(0, .ref XB), (1, .ref 0), (2, .ref 294), (3, .int q.1)]) (st' := [.int (lg_cmp p4.1 p8.1)]) rfl ?_
  refine Ev.if_ D_335 (c := .eq) (off := 464) (by decide +kernel) (t := 2388) rfl (fun c9 => ?_) (fun c9 => ?_)
  · have c9 : (lg_cmp p4.1 p8.1) = 0 := of_decide_eq_true c9
    rw [if_pos c9] at h
    refine Ev.seg D_335 [(.iinc 3 6, 3), (.goto (-2373), 3)] (by decide +kernel) (j := 0) (pc' := 18) (lv' := [(3, .int (q.1 + (6 : Int32))), (0, .ref XB), (1, .ref 0), (2, .ref 294)]) (st' := []) rfl ?_
    cases h
    exact Ev.sub (lv' := [(0, .ref XB), (1, .ref 0), (2, .ref 294), (3, .int (q.1 + (6 : Int32)))]) (subL_cons rfl (subL_cons rfl (subL_cons rfl (subL_cons rfl subL_nil)))) ho
  · have c9 : ¬ (lg_cmp p4.1 p8.1) = 0 := of_decide_eq_false c9
    rw [if_neg c9] at h
    refine Ev.seg D_335 [(.iconst 0, 1)] (by decide +kernel) (j := 0) (pc' := 1928) (lv' := [(0, .ref XB), (1, .ref 0), (2, .ref 294), (3, .int q.1)]) (st' := [.int (0 : Int32)]) rfl ?_
    cases h
    obtain rfl : o = _ := ho
    exact Ev.zret D_335 (by decide) (by decide +kernel)
def gLaw_k61 (L : Nat) (q : Int32 × mT) : Option ((Int32 × mT) ⊕ (Int32 × mT)) :=
  (rdI (q.2.1 XB) L (q.1 + (1 : Int32))).bind fun x1 =>
  (rdI (q.2.1 XB) L (q.1 + (2 : Int32))).bind fun x2 =>
  (rdI (q.2.1 XB) L (q.1 + (3 : Int32))).bind fun x3 =>
  (gL_look x1 x2 x3 q.2).bind fun p4 =>
  (rdI (p4.2.1 XB) L (q.1 + (1 : Int32))).bind fun x5 =>
  (rdI (p4.2.1 XB) L (q.1 + (2 : Int32))).bind fun x6 =>
  (rdI (p4.2.1 XB) L (q.1 + (3 : Int32))).bind fun x7 =>
  (gM_look x5 x6 x7 p4.2).bind fun p8 =>
  if p4.1 = p8.1 then
    some (.inl (q.1 + (6 : Int32), p8.2))
  else
    some (.inr (((0 : Int32), p8.2)))
set_option maxRecDepth 8000 in
theorem gLaw_k61_ok {L d : Nat} (hd : 13 ≤ d + 1) : ∀ (q : Int32 × mT) (x : (Int32 × mT) ⊕ (Int32 × mT)), gLaw_k61 L q = some x → ∀ o, sK (fun q => Ev (d + 1) 335 18 [(0, .ref XB), (1, .ref 0), (2, .ref 294), (3, .int q.1)] [] (uS L q.2) o) (fun r => o = (some (.int r.1), uS L r.2)) x → Ev (d + 1) 335 1929 [(0, .ref XB), (1, .ref 0), (2, .ref 294), (3, .int q.1)] [] (uS L q.2) o := by
  intro q x h o ho
  unfold gLaw_k61 at h
  refine Ev.seg D_335 [(.aload_n 1, 1), (.aload_n 0, 1), (.iload_n 3, 1), (.iconst 1, 1), (.iadd, 1)] (by decide +kernel) (j := 0) (pc' := 1934) (lv' := [(0, .ref XB), (1, .ref 0), (2, .ref 294), (3, .int q.1)]) (st' := [.int (q.1 + (1 : Int32)), .ref XB, .ref 0]) rfl ?_
  obtain ⟨x1, e1, h⟩ := bd h
  refine Ev.iald D_335 (by decide +kernel) (S_aIx (by rfl) (Nat.le_refl _) e1) ?_
  refine Ev.seg D_335 [(.aload_n 0, 1), (.iload_n 3, 1), (.iconst 2, 1), (.iadd, 1)] (by decide +kernel) (j := 0) (pc' := 1939) (lv' := [(0, .ref XB), (1, .ref 0), (2, .ref 294), (3, .int q.1)]) (st' := [.int (q.1 + (2 : Int32)), .ref XB, .int x1, .ref 0]) rfl ?_
  obtain ⟨x2, e2, h⟩ := bd h
  refine Ev.iald D_335 (by decide +kernel) (S_aIx (by rfl) (Nat.le_refl _) e2) ?_
  refine Ev.seg D_335 [(.aload_n 0, 1), (.iload_n 3, 1), (.iconst 3, 1), (.iadd, 1)] (by decide +kernel) (j := 0) (pc' := 1944) (lv' := [(0, .ref XB), (1, .ref 0), (2, .ref 294), (3, .int q.1)]) (st' := [.int (q.1 + (3 : Int32)), .ref XB, .int x2, .int x1, .ref 0]) rfl ?_
  obtain ⟨x3, e3, h⟩ := bd h
  refine Ev.iald D_335 (by decide +kernel) (S_aIx (by rfl) (Nat.le_refl _) e3) ?_
  obtain ⟨p4, e4, h⟩ := bd h
  refine Ev.callv D_335 E_165 (by decide +kernel) C_11_263 0 [.int x1, .int x2, .int x3] (r := []) rfl (gd_o k_0 (by decide)) rfl (Nat.le_of_ble_eq_true rfl) (Nat.le_of_ble_eq_true rfl) (gL_look_ok (by omega)  e4) ?_
  refine Ev.seg D_335 [(.aload_n 2, 1), (.aload_n 0, 1), (.iload_n 3, 1), (.iconst 1, 1), (.iadd, 1)] (by decide +kernel) (j := 0) (pc' := 1953) (lv' := [(0, .ref XB), (1, .ref 0), (2, .ref 294), (3, .int q.1)]) (st' := [.int (q.1 + (1 : Int32)), .ref XB, .ref 294, .int p4.1]) rfl ?_
  obtain ⟨x5, e5, h⟩ := bd h
  refine Ev.iald D_335 (by decide +kernel) (S_aIx (by rfl) (Nat.le_refl _) e5) ?_
  refine Ev.seg D_335 [(.aload_n 0, 1), (.iload_n 3, 1), (.iconst 2, 1), (.iadd, 1)] (by decide +kernel) (j := 0) (pc' := 1958) (lv' := [(0, .ref XB), (1, .ref 0), (2, .ref 294), (3, .int q.1)]) (st' := [.int (q.1 + (2 : Int32)), .ref XB, .int x5, .ref 294, .int p4.1]) rfl ?_
  obtain ⟨x6, e6, h⟩ := bd h
  refine Ev.iald D_335 (by decide +kernel) (S_aIx (by rfl) (Nat.le_refl _) e6) ?_
  refine Ev.seg D_335 [(.aload_n 0, 1), (.iload_n 3, 1), (.iconst 3, 1), (.iadd, 1)] (by decide +kernel) (j := 0) (pc' := 1963) (lv' := [(0, .ref XB), (1, .ref 0), (2, .ref 294), (3, .int q.1)]) (st' := [.int (q.1 + (3 : Int32)), .ref XB, .int x6, .int x5, .ref 294, .int p4.1]) rfl ?_
  obtain ⟨x7, e7, h⟩ := bd h
  refine Ev.iald D_335 (by decide +kernel) (S_aIx (by rfl) (Nat.le_refl _) e7) ?_
  obtain ⟨p8, e8, h⟩ := bd h
  refine Ev.callv D_335 E_312 (by decide +kernel) C_11_266 294 [.int x5, .int x6, .int x7] (r := [.int p4.1]) rfl (gd_o k_294 (by decide)) rfl (Nat.le_of_ble_eq_true rfl) (Nat.le_of_ble_eq_true rfl) (gM_look_ok (by omega)  e8) ?_
  refine Ev.icmp D_335 (c := .eq) (off := 421) (by decide +kernel) (t := 2388) rfl (fun c9 => ?_) (fun c9 => ?_)
  · have c9 : p4.1 = p8.1 := of_decide_eq_true c9
    rw [if_pos c9] at h
    refine Ev.seg D_335 [(.iinc 3 6, 3), (.goto (-2373), 3)] (by decide +kernel) (j := 0) (pc' := 18) (lv' := [(3, .int (q.1 + (6 : Int32))), (0, .ref XB), (1, .ref 0), (2, .ref 294)]) (st' := []) rfl ?_
    cases h
    exact Ev.sub (lv' := [(0, .ref XB), (1, .ref 0), (2, .ref 294), (3, .int (q.1 + (6 : Int32)))]) (subL_cons rfl (subL_cons rfl (subL_cons rfl (subL_cons rfl subL_nil)))) ho
  · have c9 : ¬ p4.1 = p8.1 := of_decide_eq_false c9
    rw [if_neg c9] at h
    refine Ev.seg D_335 [(.iconst 0, 1)] (by decide +kernel) (j := 0) (pc' := 1971) (lv' := [(0, .ref XB), (1, .ref 0), (2, .ref 294), (3, .int q.1)]) (st' := [.int (0 : Int32)]) rfl ?_
    cases h
    obtain rfl : o = _ := ho
    exact Ev.zret D_335 (by decide) (by decide +kernel)
def gLaw_k62 (L : Nat) (q : Int32 × mT) : Option ((Int32 × mT) ⊕ (Int32 × mT)) :=
  (rdI (q.2.1 XB) L (q.1 + (1 : Int32))).bind fun x1 =>
  (rdI (q.2.1 XB) L (q.1 + (2 : Int32))).bind fun x2 =>
  (gL_sneeze x1 x2 q.2).bind fun p3 =>
  (rdI (p3.2.1 XB) L (q.1 + (1 : Int32))).bind fun x4 =>
  (rdI (p3.2.1 XB) L (q.1 + (2 : Int32))).bind fun x5 =>
  (gM_sneeze x4 x5 p3.2).bind fun p6 =>
  if p3.1 = p6.1 then
    some (.inl (q.1 + (6 : Int32), p6.2))
  else
    some (.inr (((0 : Int32), p6.2)))
set_option maxRecDepth 8000 in
theorem gLaw_k62_ok {L d : Nat} (hd : 13 ≤ d + 1) : ∀ (q : Int32 × mT) (x : (Int32 × mT) ⊕ (Int32 × mT)), gLaw_k62 L q = some x → ∀ o, sK (fun q => Ev (d + 1) 335 18 [(0, .ref XB), (1, .ref 0), (2, .ref 294), (3, .int q.1)] [] (uS L q.2) o) (fun r => o = (some (.int r.1), uS L r.2)) x → Ev (d + 1) 335 1972 [(0, .ref XB), (1, .ref 0), (2, .ref 294), (3, .int q.1)] [] (uS L q.2) o := by
  intro q x h o ho
  unfold gLaw_k62 at h
  refine Ev.seg D_335 [(.aload_n 1, 1), (.aload_n 0, 1), (.iload_n 3, 1), (.iconst 1, 1), (.iadd, 1)] (by decide +kernel) (j := 0) (pc' := 1977) (lv' := [(0, .ref XB), (1, .ref 0), (2, .ref 294), (3, .int q.1)]) (st' := [.int (q.1 + (1 : Int32)), .ref XB, .ref 0]) rfl ?_
  obtain ⟨x1, e1, h⟩ := bd h
  refine Ev.iald D_335 (by decide +kernel) (S_aIx (by rfl) (Nat.le_refl _) e1) ?_
  refine Ev.seg D_335 [(.aload_n 0, 1), (.iload_n 3, 1), (.iconst 2, 1), (.iadd, 1)] (by decide +kernel) (j := 0) (pc' := 1982) (lv' := [(0, .ref XB), (1, .ref 0), (2, .ref 294), (3, .int q.1)]) (st' := [.int (q.1 + (2 : Int32)), .ref XB, .int x1, .ref 0]) rfl ?_
  obtain ⟨x2, e2, h⟩ := bd h
  refine Ev.iald D_335 (by decide +kernel) (S_aIx (by rfl) (Nat.le_refl _) e2) ?_
  obtain ⟨p3, e3, h⟩ := bd h
  refine Ev.callv D_335 E_166 (by decide +kernel) C_11_267 0 [.int x1, .int x2] (r := []) rfl (gd_o k_0 (by decide)) rfl (Nat.le_of_ble_eq_true rfl) (Nat.le_of_ble_eq_true rfl) (gL_sneeze_ok (by omega)  e3) ?_
  refine Ev.seg D_335 [(.aload_n 2, 1), (.aload_n 0, 1), (.iload_n 3, 1), (.iconst 1, 1), (.iadd, 1)] (by decide +kernel) (j := 0) (pc' := 1991) (lv' := [(0, .ref XB), (1, .ref 0), (2, .ref 294), (3, .int q.1)]) (st' := [.int (q.1 + (1 : Int32)), .ref XB, .ref 294, .int p3.1]) rfl ?_
  obtain ⟨x4, e4, h⟩ := bd h
  refine Ev.iald D_335 (by decide +kernel) (S_aIx (by rfl) (Nat.le_refl _) e4) ?_
  refine Ev.seg D_335 [(.aload_n 0, 1), (.iload_n 3, 1), (.iconst 2, 1), (.iadd, 1)] (by decide +kernel) (j := 0) (pc' := 1996) (lv' := [(0, .ref XB), (1, .ref 0), (2, .ref 294), (3, .int q.1)]) (st' := [.int (q.1 + (2 : Int32)), .ref XB, .int x4, .ref 294, .int p3.1]) rfl ?_
  obtain ⟨x5, e5, h⟩ := bd h
  refine Ev.iald D_335 (by decide +kernel) (S_aIx (by rfl) (Nat.le_refl _) e5) ?_
  obtain ⟨p6, e6, h⟩ := bd h
  refine Ev.callv D_335 E_314 (by decide +kernel) C_11_270 294 [.int x4, .int x5] (r := [.int p3.1]) rfl (gd_o k_294 (by decide)) rfl (Nat.le_of_ble_eq_true rfl) (Nat.le_of_ble_eq_true rfl) (gM_sneeze_ok (by omega)  e6) ?_
  refine Ev.icmp D_335 (c := .eq) (off := 388) (by decide +kernel) (t := 2388) rfl (fun c7 => ?_) (fun c7 => ?_)
  · have c7 : p3.1 = p6.1 := of_decide_eq_true c7
    rw [if_pos c7] at h
    refine Ev.seg D_335 [(.iinc 3 6, 3), (.goto (-2373), 3)] (by decide +kernel) (j := 0) (pc' := 18) (lv' := [(3, .int (q.1 + (6 : Int32))), (0, .ref XB), (1, .ref 0), (2, .ref 294)]) (st' := []) rfl ?_
    cases h
    exact Ev.sub (lv' := [(0, .ref XB), (1, .ref 0), (2, .ref 294), (3, .int (q.1 + (6 : Int32)))]) (subL_cons rfl (subL_cons rfl (subL_cons rfl (subL_cons rfl subL_nil)))) ho
  · have c7 : ¬ p3.1 = p6.1 := of_decide_eq_false c7
    rw [if_neg c7] at h
    refine Ev.seg D_335 [(.iconst 0, 1)] (by decide +kernel) (j := 0) (pc' := 2004) (lv' := [(0, .ref XB), (1, .ref 0), (2, .ref 294), (3, .int q.1)]) (st' := [.int (0 : Int32)]) rfl ?_
    cases h
    obtain rfl : o = _ := ho
    exact Ev.zret D_335 (by decide) (by decide +kernel)
def gLaw_k63 (L : Nat) (q : Int32 × mT) : Option ((Int32 × mT) ⊕ (Int32 × mT)) :=
  (gL_undo q.2).bind fun p1 =>
  (gM_undo p1.2).bind fun p2 =>
  if p1.1 = p2.1 then
    some (.inl (q.1 + (6 : Int32), p2.2))
  else
    some (.inr (((0 : Int32), p2.2)))
set_option maxRecDepth 8000 in
theorem gLaw_k63_ok {L d : Nat} (hd : 13 ≤ d + 1) : ∀ (q : Int32 × mT) (x : (Int32 × mT) ⊕ (Int32 × mT)), gLaw_k63 L q = some x → ∀ o, sK (fun q => Ev (d + 1) 335 18 [(0, .ref XB), (1, .ref 0), (2, .ref 294), (3, .int q.1)] [] (uS L q.2) o) (fun r => o = (some (.int r.1), uS L r.2)) x → Ev (d + 1) 335 2005 [(0, .ref XB), (1, .ref 0), (2, .ref 294), (3, .int q.1)] [] (uS L q.2) o := by
  intro q x h o ho
  unfold gLaw_k63 at h
  refine Ev.seg D_335 [(.aload_n 1, 1)] (by decide +kernel) (j := 0) (pc' := 2006) (lv' := [(0, .ref XB), (1, .ref 0), (2, .ref 294), (3, .int q.1)]) (st' := [.ref 0]) rfl ?_
  obtain ⟨p1, e1, h⟩ := bd h
  refine Ev.callv D_335 E_167 (by decide +kernel) C_11_271 0 [] (r := []) rfl (gd_o k_0 (by decide)) rfl (Nat.le_of_ble_eq_true rfl) (Nat.le_of_ble_eq_true rfl) (gL_undo_ok (by omega)  e1) ?_
  refine Ev.seg D_335 [(.aload_n 2, 1)] (by decide +kernel) (j := 0) (pc' := 2010) (lv' := [(0, .ref XB), (1, .ref 0), (2, .ref 294), (3, .int q.1)]) (st' := [.ref 294, .int p1.1]) rfl ?_
  obtain ⟨p2, e2, h⟩ := bd h
  refine Ev.callv D_335 E_315 (by decide +kernel) C_11_274 294 [] (r := [.int p1.1]) rfl (gd_o k_294 (by decide)) rfl (Nat.le_of_ble_eq_true rfl) (Nat.le_of_ble_eq_true rfl) (gM_undo_ok (by omega)  e2) ?_
  refine Ev.icmp D_335 (c := .eq) (off := 375) (by decide +kernel) (t := 2388) rfl (fun c3 => ?_) (fun c3 => ?_)
  · have c3 : p1.1 = p2.1 := of_decide_eq_true c3
    rw [if_pos c3] at h
    refine Ev.seg D_335 [(.iinc 3 6, 3), (.goto (-2373), 3)] (by decide +kernel) (j := 0) (pc' := 18) (lv' := [(3, .int (q.1 + (6 : Int32))), (0, .ref XB), (1, .ref 0), (2, .ref 294)]) (st' := []) rfl ?_
    cases h
    exact Ev.sub (lv' := [(0, .ref XB), (1, .ref 0), (2, .ref 294), (3, .int (q.1 + (6 : Int32)))]) (subL_cons rfl (subL_cons rfl (subL_cons rfl (subL_cons rfl subL_nil)))) ho
  · have c3 : ¬ p1.1 = p2.1 := of_decide_eq_false c3
    rw [if_neg c3] at h
    refine Ev.seg D_335 [(.iconst 0, 1)] (by decide +kernel) (j := 0) (pc' := 2017) (lv' := [(0, .ref XB), (1, .ref 0), (2, .ref 294), (3, .int q.1)]) (st' := [.int (0 : Int32)]) rfl ?_
    cases h
    obtain rfl : o = _ := ho
    exact Ev.zret D_335 (by decide) (by decide +kernel)
def gLaw_k64 (L : Nat) (q : Int32 × mT) : Option ((Int32 × mT) ⊕ (Int32 × mT)) :=
  (gL_anew q.2).bind fun p1 =>
  (gM_anew p1.2).bind fun p2 =>
  if p1.1 = p2.1 then
    some (.inl (q.1 + (6 : Int32), p2.2))
  else
    some (.inr (((0 : Int32), p2.2)))
set_option maxRecDepth 8000 in
theorem gLaw_k64_ok {L d : Nat} (hd : 13 ≤ d + 1) : ∀ (q : Int32 × mT) (x : (Int32 × mT) ⊕ (Int32 × mT)), gLaw_k64 L q = some x → ∀ o, sK (fun q => Ev (d + 1) 335 18 [(0, .ref XB), (1, .ref 0), (2, .ref 294), (3, .int q.1)] [] (uS L q.2) o) (fun r => o = (some (.int r.1), uS L r.2)) x → Ev (d + 1) 335 2018 [(0, .ref XB), (1, .ref 0), (2, .ref 294), (3, .int q.1)] [] (uS L q.2) o := by
  intro q x h o ho
  unfold gLaw_k64 at h
  refine Ev.seg D_335 [(.aload_n 1, 1)] (by decide +kernel) (j := 0) (pc' := 2019) (lv' := [(0, .ref XB), (1, .ref 0), (2, .ref 294), (3, .int q.1)]) (st' := [.ref 0]) rfl ?_
  obtain ⟨p1, e1, h⟩ := bd h
  refine Ev.callv D_335 E_168 (by decide +kernel) C_11_275 0 [] (r := []) rfl (gd_o k_0 (by decide)) rfl (Nat.le_of_ble_eq_true rfl) (Nat.le_of_ble_eq_true rfl) (gL_anew_ok (by omega)  e1) ?_
  refine Ev.seg D_335 [(.aload_n 2, 1)] (by decide +kernel) (j := 0) (pc' := 2023) (lv' := [(0, .ref XB), (1, .ref 0), (2, .ref 294), (3, .int q.1)]) (st' := [.ref 294, .int p1.1]) rfl ?_
  obtain ⟨p2, e2, h⟩ := bd h
  refine Ev.callv D_335 E_316 (by decide +kernel) C_11_278 294 [] (r := [.int p1.1]) rfl (gd_o k_294 (by decide)) rfl (Nat.le_of_ble_eq_true rfl) (Nat.le_of_ble_eq_true rfl) (gM_anew_ok (by omega)  e2) ?_
  refine Ev.icmp D_335 (c := .eq) (off := 362) (by decide +kernel) (t := 2388) rfl (fun c3 => ?_) (fun c3 => ?_)
  · have c3 : p1.1 = p2.1 := of_decide_eq_true c3
    rw [if_pos c3] at h
    refine Ev.seg D_335 [(.iinc 3 6, 3), (.goto (-2373), 3)] (by decide +kernel) (j := 0) (pc' := 18) (lv' := [(3, .int (q.1 + (6 : Int32))), (0, .ref XB), (1, .ref 0), (2, .ref 294)]) (st' := []) rfl ?_
    cases h
    exact Ev.sub (lv' := [(0, .ref XB), (1, .ref 0), (2, .ref 294), (3, .int (q.1 + (6 : Int32)))]) (subL_cons rfl (subL_cons rfl (subL_cons rfl (subL_cons rfl subL_nil)))) ho
  · have c3 : ¬ p1.1 = p2.1 := of_decide_eq_false c3
    rw [if_neg c3] at h
    refine Ev.seg D_335 [(.iconst 0, 1)] (by decide +kernel) (j := 0) (pc' := 2030) (lv' := [(0, .ref XB), (1, .ref 0), (2, .ref 294), (3, .int q.1)]) (st' := [.int (0 : Int32)]) rfl ?_
    cases h
    obtain rfl : o = _ := ho
    exact Ev.zret D_335 (by decide) (by decide +kernel)
def gLaw_k65 (L : Nat) (q : Int32 × mT) : Option ((Int32 × mT) ⊕ (Int32 × mT)) :=
  (rdI (q.2.1 XB) L (q.1 + (1 : Int32))).bind fun x1 =>
  (rdI (q.2.1 XB) L (q.1 + (2 : Int32))).bind fun x2 =>
  (gL_drawn x1 x2 q.2).bind fun p3 =>
  (rdI (p3.2.1 XB) L (q.1 + (1 : Int32))).bind fun x4 =>
  (rdI (p3.2.1 XB) L (q.1 + (2 : Int32))).bind fun x5 =>
  (gM_drawn x4 x5 p3.2).bind fun p6 =>
  if p3.1 = p6.1 then
    some (.inl (q.1 + (6 : Int32), p6.2))
  else
    some (.inr (((0 : Int32), p6.2)))
set_option maxRecDepth 8000 in
theorem gLaw_k65_ok {L d : Nat} (hd : 13 ≤ d + 1) : ∀ (q : Int32 × mT) (x : (Int32 × mT) ⊕ (Int32 × mT)), gLaw_k65 L q = some x → ∀ o, sK (fun q => Ev (d + 1) 335 18 [(0, .ref XB), (1, .ref 0), (2, .ref 294), (3, .int q.1)] [] (uS L q.2) o) (fun r => o = (some (.int r.1), uS L r.2)) x → Ev (d + 1) 335 2031 [(0, .ref XB), (1, .ref 0), (2, .ref 294), (3, .int q.1)] [] (uS L q.2) o := by
  intro q x h o ho
  unfold gLaw_k65 at h
  refine Ev.seg D_335 [(.aload_n 1, 1), (.aload_n 0, 1), (.iload_n 3, 1), (.iconst 1, 1), (.iadd, 1)] (by decide +kernel) (j := 0) (pc' := 2036) (lv' := [(0, .ref XB), (1, .ref 0), (2, .ref 294), (3, .int q.1)]) (st' := [.int (q.1 + (1 : Int32)), .ref XB, .ref 0]) rfl ?_
  obtain ⟨x1, e1, h⟩ := bd h
  refine Ev.iald D_335 (by decide +kernel) (S_aIx (by rfl) (Nat.le_refl _) e1) ?_
  refine Ev.seg D_335 [(.aload_n 0, 1), (.iload_n 3, 1), (.iconst 2, 1), (.iadd, 1)] (by decide +kernel) (j := 0) (pc' := 2041) (lv' := [(0, .ref XB), (1, .ref 0), (2, .ref 294), (3, .int q.1)]) (st' := [.int (q.1 + (2 : Int32)), .ref XB, .int x1, .ref 0]) rfl ?_
  obtain ⟨x2, e2, h⟩ := bd h
  refine Ev.iald D_335 (by decide +kernel) (S_aIx (by rfl) (Nat.le_refl _) e2) ?_
  obtain ⟨p3, e3, h⟩ := bd h
  refine Ev.callv D_335 E_169 (by decide +kernel) C_11_279 0 [.int x1, .int x2] (r := []) rfl (gd_o k_0 (by decide)) rfl (Nat.le_of_ble_eq_true rfl) (Nat.le_of_ble_eq_true rfl) (gL_drawn_ok (by omega)  e3) ?_
  refine Ev.seg D_335 [(.aload_n 2, 1), (.aload_n 0, 1), (.iload_n 3, 1), (.iconst 1, 1), (.iadd, 1)] (by decide +kernel) (j := 0) (pc' := 2050) (lv' := [(0, .ref XB), (1, .ref 0), (2, .ref 294), (3, .int q.1)]) (st' := [.int (q.1 + (1 : Int32)), .ref XB, .ref 294, .int p3.1]) rfl ?_
  obtain ⟨x4, e4, h⟩ := bd h
  refine Ev.iald D_335 (by decide +kernel) (S_aIx (by rfl) (Nat.le_refl _) e4) ?_
  refine Ev.seg D_335 [(.aload_n 0, 1), (.iload_n 3, 1), (.iconst 2, 1), (.iadd, 1)] (by decide +kernel) (j := 0) (pc' := 2055) (lv' := [(0, .ref XB), (1, .ref 0), (2, .ref 294), (3, .int q.1)]) (st' := [.int (q.1 + (2 : Int32)), .ref XB, .int x4, .ref 294, .int p3.1]) rfl ?_
  obtain ⟨x5, e5, h⟩ := bd h
  refine Ev.iald D_335 (by decide +kernel) (S_aIx (by rfl) (Nat.le_refl _) e5) ?_
  obtain ⟨p6, e6, h⟩ := bd h
  refine Ev.callv D_335 E_317 (by decide +kernel) C_11_282 294 [.int x4, .int x5] (r := [.int p3.1]) rfl (gd_o k_294 (by decide)) rfl (Nat.le_of_ble_eq_true rfl) (Nat.le_of_ble_eq_true rfl) (gM_drawn_ok (by omega)  e6) ?_
  refine Ev.icmp D_335 (c := .eq) (off := 329) (by decide +kernel) (t := 2388) rfl (fun c7 => ?_) (fun c7 => ?_)
  · have c7 : p3.1 = p6.1 := of_decide_eq_true c7
    rw [if_pos c7] at h
    refine Ev.seg D_335 [(.iinc 3 6, 3), (.goto (-2373), 3)] (by decide +kernel) (j := 0) (pc' := 18) (lv' := [(3, .int (q.1 + (6 : Int32))), (0, .ref XB), (1, .ref 0), (2, .ref 294)]) (st' := []) rfl ?_
    cases h
    exact Ev.sub (lv' := [(0, .ref XB), (1, .ref 0), (2, .ref 294), (3, .int (q.1 + (6 : Int32)))]) (subL_cons rfl (subL_cons rfl (subL_cons rfl (subL_cons rfl subL_nil)))) ho
  · have c7 : ¬ p3.1 = p6.1 := of_decide_eq_false c7
    rw [if_neg c7] at h
    refine Ev.seg D_335 [(.iconst 0, 1)] (by decide +kernel) (j := 0) (pc' := 2063) (lv' := [(0, .ref XB), (1, .ref 0), (2, .ref 294), (3, .int q.1)]) (st' := [.int (0 : Int32)]) rfl ?_
    cases h
    obtain rfl : o = _ := ho
    exact Ev.zret D_335 (by decide) (by decide +kernel)
def gLaw_k66 (L : Nat) (q : Int32 × mT) : Option ((Int32 × mT) ⊕ (Int32 × mT)) :=
  (rdI (q.2.1 XB) L (q.1 + (1 : Int32))).bind fun x1 =>
  (rdI (q.2.1 XB) L (q.1 + (2 : Int32))).bind fun x2 =>
  (rdI (q.2.1 XB) L (q.1 + (3 : Int32))).bind fun x3 =>
  (gL_luck x1 x2 x3 q.2).bind fun p4 =>
  (rdI (p4.2.1 XB) L (q.1 + (1 : Int32))).bind fun x5 =>
  (rdI (p4.2.1 XB) L (q.1 + (2 : Int32))).bind fun x6 =>
  (rdI (p4.2.1 XB) L (q.1 + (3 : Int32))).bind fun x7 =>
  (gM_luck x5 x6 x7 p4.2).bind fun p8 =>
  if p4.1 = p8.1 then
    some (.inl (q.1 + (6 : Int32), p8.2))
  else
    some (.inr (((0 : Int32), p8.2)))
set_option maxRecDepth 8000 in
theorem gLaw_k66_ok {L d : Nat} (hd : 13 ≤ d + 1) : ∀ (q : Int32 × mT) (x : (Int32 × mT) ⊕ (Int32 × mT)), gLaw_k66 L q = some x → ∀ o, sK (fun q => Ev (d + 1) 335 18 [(0, .ref XB), (1, .ref 0), (2, .ref 294), (3, .int q.1)] [] (uS L q.2) o) (fun r => o = (some (.int r.1), uS L r.2)) x → Ev (d + 1) 335 2064 [(0, .ref XB), (1, .ref 0), (2, .ref 294), (3, .int q.1)] [] (uS L q.2) o := by
  intro q x h o ho
  unfold gLaw_k66 at h
  refine Ev.seg D_335 [(.aload_n 1, 1), (.aload_n 0, 1), (.iload_n 3, 1), (.iconst 1, 1), (.iadd, 1)] (by decide +kernel) (j := 0) (pc' := 2069) (lv' := [(0, .ref XB), (1, .ref 0), (2, .ref 294), (3, .int q.1)]) (st' := [.int (q.1 + (1 : Int32)), .ref XB, .ref 0]) rfl ?_
  obtain ⟨x1, e1, h⟩ := bd h
  refine Ev.iald D_335 (by decide +kernel) (S_aIx (by rfl) (Nat.le_refl _) e1) ?_
  refine Ev.seg D_335 [(.aload_n 0, 1), (.iload_n 3, 1), (.iconst 2, 1), (.iadd, 1)] (by decide +kernel) (j := 0) (pc' := 2074) (lv' := [(0, .ref XB), (1, .ref 0), (2, .ref 294), (3, .int q.1)]) (st' := [.int (q.1 + (2 : Int32)), .ref XB, .int x1, .ref 0]) rfl ?_
  obtain ⟨x2, e2, h⟩ := bd h
  refine Ev.iald D_335 (by decide +kernel) (S_aIx (by rfl) (Nat.le_refl _) e2) ?_
  refine Ev.seg D_335 [(.aload_n 0, 1), (.iload_n 3, 1), (.iconst 3, 1), (.iadd, 1)] (by decide +kernel) (j := 0) (pc' := 2079) (lv' := [(0, .ref XB), (1, .ref 0), (2, .ref 294), (3, .int q.1)]) (st' := [.int (q.1 + (3 : Int32)), .ref XB, .int x2, .int x1, .ref 0]) rfl ?_
  obtain ⟨x3, e3, h⟩ := bd h
  refine Ev.iald D_335 (by decide +kernel) (S_aIx (by rfl) (Nat.le_refl _) e3) ?_
  obtain ⟨p4, e4, h⟩ := bd h
  refine Ev.callv D_335 E_173 (by decide +kernel) C_11_283 0 [.int x1, .int x2, .int x3] (r := []) rfl (gd_o k_0 (by decide)) rfl (Nat.le_of_ble_eq_true rfl) (Nat.le_of_ble_eq_true rfl) (gL_luck_ok (by omega)  e4) ?_
  refine Ev.seg D_335 [(.aload_n 2, 1), (.aload_n 0, 1), (.iload_n 3, 1), (.iconst 1, 1), (.iadd, 1)] (by decide +kernel) (j := 0) (pc' := 2088) (lv' := [(0, .ref XB), (1, .ref 0), (2, .ref 294), (3, .int q.1)]) (st' := [.int (q.1 + (1 : Int32)), .ref XB, .ref 294, .int p4.1]) rfl ?_
  obtain ⟨x5, e5, h⟩ := bd h
  refine Ev.iald D_335 (by decide +kernel) (S_aIx (by rfl) (Nat.le_refl _) e5) ?_
  refine Ev.seg D_335 [(.aload_n 0, 1), (.iload_n 3, 1), (.iconst 2, 1), (.iadd, 1)] (by decide +kernel) (j := 0) (pc' := 2093) (lv' := [(0, .ref XB), (1, .ref 0), (2, .ref 294), (3, .int q.1)]) (st' := [.int (q.1 + (2 : Int32)), .ref XB, .int x5, .ref 294, .int p4.1]) rfl ?_
  obtain ⟨x6, e6, h⟩ := bd h
  refine Ev.iald D_335 (by decide +kernel) (S_aIx (by rfl) (Nat.le_refl _) e6) ?_
  refine Ev.seg D_335 [(.aload_n 0, 1), (.iload_n 3, 1), (.iconst 3, 1), (.iadd, 1)] (by decide +kernel) (j := 0) (pc' := 2098) (lv' := [(0, .ref XB), (1, .ref 0), (2, .ref 294), (3, .int q.1)]) (st' := [.int (q.1 + (3 : Int32)), .ref XB, .int x6, .int x5, .ref 294, .int p4.1]) rfl ?_
  obtain ⟨x7, e7, h⟩ := bd h
  refine Ev.iald D_335 (by decide +kernel) (S_aIx (by rfl) (Nat.le_refl _) e7) ?_
  obtain ⟨p8, e8, h⟩ := bd h
  refine Ev.callv D_335 E_320 (by decide +kernel) C_11_286 294 [.int x5, .int x6, .int x7] (r := [.int p4.1]) rfl (gd_o k_294 (by decide)) rfl (Nat.le_of_ble_eq_true rfl) (Nat.le_of_ble_eq_true rfl) (gM_luck_ok (by omega)  e8) ?_
  refine Ev.icmp D_335 (c := .eq) (off := 286) (by decide +kernel) (t := 2388) rfl (fun c9 => ?_) (fun c9 => ?_)
  · have c9 : p4.1 = p8.1 := of_decide_eq_true c9
    rw [if_pos c9] at h
    refine Ev.seg D_335 [(.iinc 3 6, 3), (.goto (-2373), 3)] (by decide +kernel) (j := 0) (pc' := 18) (lv' := [(3, .int (q.1 + (6 : Int32))), (0, .ref XB), (1, .ref 0), (2, .ref 294)]) (st' := []) rfl ?_
    cases h
    exact Ev.sub (lv' := [(0, .ref XB), (1, .ref 0), (2, .ref 294), (3, .int (q.1 + (6 : Int32)))]) (subL_cons rfl (subL_cons rfl (subL_cons rfl (subL_cons rfl subL_nil)))) ho
  · have c9 : ¬ p4.1 = p8.1 := of_decide_eq_false c9
    rw [if_neg c9] at h
    refine Ev.seg D_335 [(.iconst 0, 1)] (by decide +kernel) (j := 0) (pc' := 2106) (lv' := [(0, .ref XB), (1, .ref 0), (2, .ref 294), (3, .int q.1)]) (st' := [.int (0 : Int32)]) rfl ?_
    cases h
    obtain rfl : o = _ := ho
    exact Ev.zret D_335 (by decide) (by decide +kernel)
def gLaw_k67 (L : Nat) (q : Int32 × mT) : Option ((Int32 × mT) ⊕ (Int32 × mT)) :=
  (rdI (q.2.1 XB) L (q.1 + (1 : Int32))).bind fun x1 =>
  (rdI (q.2.1 XB) L (q.1 + (2 : Int32))).bind fun x2 =>
  (gL_rate x1 x2 q.2).bind fun p3 =>
  (rdI (p3.2.1 XB) L (q.1 + (1 : Int32))).bind fun x4 =>
  (rdI (p3.2.1 XB) L (q.1 + (2 : Int32))).bind fun x5 =>
  (gM_rate x4 x5 p3.2).bind fun p6 =>
  if p3.1 = p6.1 then
    some (.inl (q.1 + (6 : Int32), p6.2))
  else
    some (.inr (((0 : Int32), p6.2)))
set_option maxRecDepth 8000 in
theorem gLaw_k67_ok {L d : Nat} (hd : 13 ≤ d + 1) : ∀ (q : Int32 × mT) (x : (Int32 × mT) ⊕ (Int32 × mT)), gLaw_k67 L q = some x → ∀ o, sK (fun q => Ev (d + 1) 335 18 [(0, .ref XB), (1, .ref 0), (2, .ref 294), (3, .int q.1)] [] (uS L q.2) o) (fun r => o = (some (.int r.1), uS L r.2)) x → Ev (d + 1) 335 2107 [(0, .ref XB), (1, .ref 0), (2, .ref 294), (3, .int q.1)] [] (uS L q.2) o := by
  intro q x h o ho
  unfold gLaw_k67 at h
  refine Ev.seg D_335 [(.aload_n 1, 1), (.aload_n 0, 1), (.iload_n 3, 1), (.iconst 1, 1), (.iadd, 1)] (by decide +kernel) (j := 0) (pc' := 2112) (lv' := [(0, .ref XB), (1, .ref 0), (2, .ref 294), (3, .int q.1)]) (st' := [.int (q.1 + (1 : Int32)), .ref XB, .ref 0]) rfl ?_
  obtain ⟨x1, e1, h⟩ := bd h
  refine Ev.iald D_335 (by decide +kernel) (S_aIx (by rfl) (Nat.le_refl _) e1) ?_
  refine Ev.seg D_335 [(.aload_n 0, 1), (.iload_n 3, 1), (.iconst 2, 1), (.iadd, 1)] (by decide +kernel) (j := 0) (pc' := 2117) (lv' := [(0, .ref XB), (1, .ref 0), (2, .ref 294), (3, .int q.1)]) (st' := [.int (q.1 + (2 : Int32)), .ref XB, .int x1, .ref 0]) rfl ?_
  obtain ⟨x2, e2, h⟩ := bd h
  refine Ev.iald D_335 (by decide +kernel) (S_aIx (by rfl) (Nat.le_refl _) e2) ?_
  obtain ⟨p3, e3, h⟩ := bd h
  refine Ev.callv D_335 E_174 (by decide +kernel) C_11_287 0 [.int x1, .int x2] (r := []) rfl (gd_o k_0 (by decide)) rfl (Nat.le_of_ble_eq_true rfl) (Nat.le_of_ble_eq_true rfl) (gL_rate_ok (by omega)  e3) ?_
  refine Ev.seg D_335 [(.aload_n 2, 1), (.aload_n 0, 1), (.iload_n 3, 1), (.iconst 1, 1), (.iadd, 1)] (by decide +kernel) (j := 0) (pc' := 2126) (lv' := [(0, .ref XB), (1, .ref 0), (2, .ref 294), (3, .int q.1)]) (st' := [.int (q.1 + (1 : Int32)), .ref XB, .ref 294, .int p3.1]) rfl ?_
  obtain ⟨x4, e4, h⟩ := bd h
  refine Ev.iald D_335 (by decide +kernel) (S_aIx (by rfl) (Nat.le_refl _) e4) ?_
  refine Ev.seg D_335 [(.aload_n 0, 1), (.iload_n 3, 1), (.iconst 2, 1), (.iadd, 1)] (by decide +kernel) (j := 0) (pc' := 2131) (lv' := [(0, .ref XB), (1, .ref 0), (2, .ref 294), (3, .int q.1)]) (st' := [.int (q.1 + (2 : Int32)), .ref XB, .int x4, .ref 294, .int p3.1]) rfl ?_
  obtain ⟨x5, e5, h⟩ := bd h
  refine Ev.iald D_335 (by decide +kernel) (S_aIx (by rfl) (Nat.le_refl _) e5) ?_
  obtain ⟨p6, e6, h⟩ := bd h
  refine Ev.callv D_335 E_321 (by decide +kernel) C_11_290 294 [.int x4, .int x5] (r := [.int p3.1]) rfl (gd_o k_294 (by decide)) rfl (Nat.le_of_ble_eq_true rfl) (Nat.le_of_ble_eq_true rfl) (gM_rate_ok (by omega)  e6) ?_
  refine Ev.icmp D_335 (c := .eq) (off := 253) (by decide +kernel) (t := 2388) rfl (fun c7 => ?_) (fun c7 => ?_)
  · have c7 : p3.1 = p6.1 := of_decide_eq_true c7
    rw [if_pos c7] at h
    refine Ev.seg D_335 [(.iinc 3 6, 3), (.goto (-2373), 3)] (by decide +kernel) (j := 0) (pc' := 18) (lv' := [(3, .int (q.1 + (6 : Int32))), (0, .ref XB), (1, .ref 0), (2, .ref 294)]) (st' := []) rfl ?_
    cases h
    exact Ev.sub (lv' := [(0, .ref XB), (1, .ref 0), (2, .ref 294), (3, .int (q.1 + (6 : Int32)))]) (subL_cons rfl (subL_cons rfl (subL_cons rfl (subL_cons rfl subL_nil)))) ho
  · have c7 : ¬ p3.1 = p6.1 := of_decide_eq_false c7
    rw [if_neg c7] at h
    refine Ev.seg D_335 [(.iconst 0, 1)] (by decide +kernel) (j := 0) (pc' := 2139) (lv' := [(0, .ref XB), (1, .ref 0), (2, .ref 294), (3, .int q.1)]) (st' := [.int (0 : Int32)]) rfl ?_
    cases h
    obtain rfl : o = _ := ho
    exact Ev.zret D_335 (by decide) (by decide +kernel)
def gLaw_k68 (L : Nat) (q : Int32 × mT) : Option ((Int32 × mT) ⊕ (Int32 × mT)) :=
  (rdI (q.2.1 XB) L (q.1 + (1 : Int32))).bind fun x1 =>
  (gL_count x1 q.2).bind fun p2 =>
  (rdI (q.2.1 XB) L (q.1 + (1 : Int32))).bind fun x3 =>
  (gM_count x3 q.2).bind fun p4 =>
  if p2 = p4 then
    some (.inl (q.1 + (6 : Int32), q.2))
  else
    some (.inr (((0 : Int32), q.2)))
set_option maxRecDepth 8000 in
theorem gLaw_k68_ok {L d : Nat} (hd : 13 ≤ d + 1) : ∀ (q : Int32 × mT) (x : (Int32 × mT) ⊕ (Int32 × mT)), gLaw_k68 L q = some x → ∀ o, sK (fun q => Ev (d + 1) 335 18 [(0, .ref XB), (1, .ref 0), (2, .ref 294), (3, .int q.1)] [] (uS L q.2) o) (fun r => o = (some (.int r.1), uS L r.2)) x → Ev (d + 1) 335 2140 [(0, .ref XB), (1, .ref 0), (2, .ref 294), (3, .int q.1)] [] (uS L q.2) o := by
  intro q x h o ho
  unfold gLaw_k68 at h
  refine Ev.seg D_335 [(.aload_n 1, 1), (.aload_n 0, 1), (.iload_n 3, 1), (.iconst 1, 1), (.iadd, 1)] (by decide +kernel) (j := 0) (pc' := 2145) (lv' := [(0, .ref XB), (1, .ref 0), (2, .ref 294), (3, .int q.1)]) (st' := [.int (q.1 + (1 : Int32)), .ref XB, .ref 0]) rfl ?_
  obtain ⟨x1, e1, h⟩ := bd h
  refine Ev.iald D_335 (by decide +kernel) (S_aIx (by rfl) (Nat.le_refl _) e1) ?_
  obtain ⟨p2, e2, h⟩ := bd h
  refine Ev.callv D_335 E_175 (by decide +kernel) C_11_291 0 [.int x1] (r := []) rfl (gd_o k_0 (by decide)) rfl (Nat.le_of_ble_eq_true rfl) (Nat.le_of_ble_eq_true rfl) (gL_count_ok (by omega)  e2) ?_
  refine Ev.seg D_335 [(.aload_n 2, 1), (.aload_n 0, 1), (.iload_n 3, 1), (.iconst 1, 1), (.iadd, 1)] (by decide +kernel) (j := 0) (pc' := 2154) (lv' := [(0, .ref XB), (1, .ref 0), (2, .ref 294), (3, .int q.1)]) (st' := [.int (q.1 + (1 : Int32)), .ref XB, .ref 294, .int p2]) rfl ?_
  obtain ⟨x3, e3, h⟩ := bd h
  refine Ev.iald D_335 (by decide +kernel) (S_aIx (by rfl) (Nat.le_refl _) e3) ?_
  obtain ⟨p4, e4, h⟩ := bd h
  refine Ev.callv D_335 E_322 (by decide +kernel) C_11_294 294 [.int x3] (r := [.int p2]) rfl (gd_o k_294 (by decide)) rfl (Nat.le_of_ble_eq_true rfl) (Nat.le_of_ble_eq_true rfl) (gM_count_ok (by omega)  e4) ?_
  refine Ev.icmp D_335 (c := .eq) (off := 230) (by decide +kernel) (t := 2388) rfl (fun c5 => ?_) (fun c5 => ?_)
  · have c5 : p2 = p4 := of_decide_eq_true c5
    rw [if_pos c5] at h
    refine Ev.seg D_335 [(.iinc 3 6, 3), (.goto (-2373), 3)] (by decide +kernel) (j := 0) (pc' := 18) (lv' := [(3, .int (q.1 + (6 : Int32))), (0, .ref XB), (1, .ref 0), (2, .ref 294)]) (st' := []) rfl ?_
    cases h
    exact Ev.sub (lv' := [(0, .ref XB), (1, .ref 0), (2, .ref 294), (3, .int (q.1 + (6 : Int32)))]) (subL_cons rfl (subL_cons rfl (subL_cons rfl (subL_cons rfl subL_nil)))) ho
  · have c5 : ¬ p2 = p4 := of_decide_eq_false c5
    rw [if_neg c5] at h
    refine Ev.seg D_335 [(.iconst 0, 1)] (by decide +kernel) (j := 0) (pc' := 2162) (lv' := [(0, .ref XB), (1, .ref 0), (2, .ref 294), (3, .int q.1)]) (st' := [.int (0 : Int32)]) rfl ?_
    cases h
    obtain rfl : o = _ := ho
    exact Ev.zret D_335 (by decide) (by decide +kernel)
def gLaw_k69 (L : Nat) (q : Int32 × mT) : Option ((Int32 × mT) ⊕ (Int32 × mT)) :=
  (rdI (q.2.1 XB) L (q.1 + (1 : Int32))).bind fun x1 =>
  (gL_image x1 q.2).bind fun p2 =>
  (rdI (p2.2.1 XB) L (q.1 + (1 : Int32))).bind fun x3 =>
  (gM_image x3 p2.2).bind fun p4 =>
  if p2.1 = p4.1 then
    some (.inl (q.1 + (6 : Int32), p4.2))
  else
    some (.inr (((0 : Int32), p4.2)))
set_option maxRecDepth 8000 in
theorem gLaw_k69_ok {L d : Nat} (hd : 13 ≤ d + 1) : ∀ (q : Int32 × mT) (x : (Int32 × mT) ⊕ (Int32 × mT)), gLaw_k69 L q = some x → ∀ o, sK (fun q => Ev (d + 1) 335 18 [(0, .ref XB), (1, .ref 0), (2, .ref 294), (3, .int q.1)] [] (uS L q.2) o) (fun r => o = (some (.int r.1), uS L r.2)) x → Ev (d + 1) 335 2163 [(0, .ref XB), (1, .ref 0), (2, .ref 294), (3, .int q.1)] [] (uS L q.2) o := by
  intro q x h o ho
  unfold gLaw_k69 at h
  refine Ev.seg D_335 [(.aload_n 1, 1), (.aload_n 0, 1), (.iload_n 3, 1), (.iconst 1, 1), (.iadd, 1)] (by decide +kernel) (j := 0) (pc' := 2168) (lv' := [(0, .ref XB), (1, .ref 0), (2, .ref 294), (3, .int q.1)]) (st' := [.int (q.1 + (1 : Int32)), .ref XB, .ref 0]) rfl ?_
  obtain ⟨x1, e1, h⟩ := bd h
  refine Ev.iald D_335 (by decide +kernel) (S_aIx (by rfl) (Nat.le_refl _) e1) ?_
  obtain ⟨p2, e2, h⟩ := bd h
  refine Ev.callv D_335 E_177 (by decide +kernel) C_11_295 0 [.int x1] (r := []) rfl (gd_o k_0 (by decide)) rfl (Nat.le_of_ble_eq_true rfl) (Nat.le_of_ble_eq_true rfl) (gL_image_ok (by omega)  e2) ?_
  refine Ev.seg D_335 [(.aload_n 2, 1), (.aload_n 0, 1), (.iload_n 3, 1), (.iconst 1, 1), (.iadd, 1)] (by decide +kernel) (j := 0) (pc' := 2177) (lv' := [(0, .ref XB), (1, .ref 0), (2, .ref 294), (3, .int q.1)]) (st' := [.int (q.1 + (1 : Int32)), .ref XB, .ref 294, .int p2.1]) rfl ?_
  obtain ⟨x3, e3, h⟩ := bd h
  refine Ev.iald D_335 (by decide +kernel) (S_aIx (by rfl) (Nat.le_refl _) e3) ?_
  obtain ⟨p4, e4, h⟩ := bd h
  refine Ev.callv D_335 E_183 (by decide +kernel) C_11_298 294 [.int x3] (r := [.int p2.1]) rfl (gd_o k_294 (by decide)) rfl (Nat.le_of_ble_eq_true rfl) (Nat.le_of_ble_eq_true rfl) (gM_image_ok (by omega)  e4) ?_
  refine Ev.icmp D_335 (c := .eq) (off := 207) (by decide +kernel) (t := 2388) rfl (fun c5 => ?_) (fun c5 => ?_)
  · have c5 : p2.1 = p4.1 := of_decide_eq_true c5
    rw [if_pos c5] at h
    refine Ev.seg D_335 [(.iinc 3 6, 3), (.goto (-2373), 3)] (by decide +kernel) (j := 0) (pc' := 18) (lv' := [(3, .int (q.1 + (6 : Int32))), (0, .ref XB), (1, .ref 0), (2, .ref 294)]) (st' := []) rfl ?_
    cases h
    exact Ev.sub (lv' := [(0, .ref XB), (1, .ref 0), (2, .ref 294), (3, .int (q.1 + (6 : Int32)))]) (subL_cons rfl (subL_cons rfl (subL_cons rfl (subL_cons rfl subL_nil)))) ho
  · have c5 : ¬ p2.1 = p4.1 := of_decide_eq_false c5
    rw [if_neg c5] at h
    refine Ev.seg D_335 [(.iconst 0, 1)] (by decide +kernel) (j := 0) (pc' := 2185) (lv' := [(0, .ref XB), (1, .ref 0), (2, .ref 294), (3, .int q.1)]) (st' := [.int (0 : Int32)]) rfl ?_
    cases h
    obtain rfl : o = _ := ho
    exact Ev.zret D_335 (by decide) (by decide +kernel)
def gLaw_k70 (L : Nat) (q : Int32 × mT) : Option ((Int32 × mT) ⊕ (Int32 × mT)) :=
  (rdI (q.2.1 XB) L (q.1 + (1 : Int32))).bind fun x1 =>
  (gL_back x1 q.2).bind fun p2 =>
  (rdI (p2.2.1 XB) L (q.1 + (1 : Int32))).bind fun x3 =>
  (gM_back x3 p2.2).bind fun p4 =>
  if p2.1 = p4.1 then
    some (.inl (q.1 + (6 : Int32), p4.2))
  else
    some (.inr (((0 : Int32), p4.2)))
set_option maxRecDepth 8000 in
theorem gLaw_k70_ok {L d : Nat} (hd : 13 ≤ d + 1) : ∀ (q : Int32 × mT) (x : (Int32 × mT) ⊕ (Int32 × mT)), gLaw_k70 L q = some x → ∀ o, sK (fun q => Ev (d + 1) 335 18 [(0, .ref XB), (1, .ref 0), (2, .ref 294), (3, .int q.1)] [] (uS L q.2) o) (fun r => o = (some (.int r.1), uS L r.2)) x → Ev (d + 1) 335 2186 [(0, .ref XB), (1, .ref 0), (2, .ref 294), (3, .int q.1)] [] (uS L q.2) o := by
  intro q x h o ho
  unfold gLaw_k70 at h
  refine Ev.seg D_335 [(.aload_n 1, 1), (.aload_n 0, 1), (.iload_n 3, 1), (.iconst 1, 1), (.iadd, 1)] (by decide +kernel) (j := 0) (pc' := 2191) (lv' := [(0, .ref XB), (1, .ref 0), (2, .ref 294), (3, .int q.1)]) (st' := [.int (q.1 + (1 : Int32)), .ref XB, .ref 0]) rfl ?_
  obtain ⟨x1, e1, h⟩ := bd h
  refine Ev.iald D_335 (by decide +kernel) (S_aIx (by rfl) (Nat.le_refl _) e1) ?_
  obtain ⟨p2, e2, h⟩ := bd h
  refine Ev.callv D_335 E_178 (by decide +kernel) C_11_299 0 [.int x1] (r := []) rfl (gd_o k_0 (by decide)) rfl (Nat.le_of_ble_eq_true rfl) (Nat.le_of_ble_eq_true rfl) (gL_back_ok (by omega)  e2) ?_
  refine Ev.seg D_335 [(.aload_n 2, 1), (.aload_n 0, 1), (.iload_n 3, 1), (.iconst 1, 1), (.iadd, 1)] (by decide +kernel) (j := 0) (pc' := 2200) (lv' := [(0, .ref XB), (1, .ref 0), (2, .ref 294), (3, .int q.1)]) (st' := [.int (q.1 + (1 : Int32)), .ref XB, .ref 294, .int p2.1]) rfl ?_
  obtain ⟨x3, e3, h⟩ := bd h
  refine Ev.iald D_335 (by decide +kernel) (S_aIx (by rfl) (Nat.le_refl _) e3) ?_
  obtain ⟨p4, e4, h⟩ := bd h
  refine Ev.callv D_335 E_185 (by decide +kernel) C_11_302 294 [.int x3] (r := [.int p2.1]) rfl (gd_o k_294 (by decide)) rfl (Nat.le_of_ble_eq_true rfl) (Nat.le_of_ble_eq_true rfl) (gM_back_ok (by omega)  e4) ?_
  refine Ev.icmp D_335 (c := .eq) (off := 184) (by decide +kernel) (t := 2388) rfl (fun c5 => ?_) (fun c5 => ?_)
  · have c5 : p2.1 = p4.1 := of_decide_eq_true c5
    rw [if_pos c5] at h
    refine Ev.seg D_335 [(.iinc 3 6, 3), (.goto (-2373), 3)] (by decide +kernel) (j := 0) (pc' := 18) (lv' := [(3, .int (q.1 + (6 : Int32))), (0, .ref XB), (1, .ref 0), (2, .ref 294)]) (st' := []) rfl ?_
    cases h
    exact Ev.sub (lv' := [(0, .ref XB), (1, .ref 0), (2, .ref 294), (3, .int (q.1 + (6 : Int32)))]) (subL_cons rfl (subL_cons rfl (subL_cons rfl (subL_cons rfl subL_nil)))) ho
  · have c5 : ¬ p2.1 = p4.1 := of_decide_eq_false c5
    rw [if_neg c5] at h
    refine Ev.seg D_335 [(.iconst 0, 1)] (by decide +kernel) (j := 0) (pc' := 2208) (lv' := [(0, .ref XB), (1, .ref 0), (2, .ref 294), (3, .int q.1)]) (st' := [.int (0 : Int32)]) rfl ?_
    cases h
    obtain rfl : o = _ := ho
    exact Ev.zret D_335 (by decide) (by decide +kernel)
def gLaw_k71 (L : Nat) (q : Int32 × mT) : Option ((Int32 × mT) ⊕ (Int32 × mT)) :=
  (rdI (q.2.1 XB) L (q.1 + (1 : Int32))).bind fun x1 =>
  (rdI (q.2.1 XB) L (q.1 + (2 : Int32))).bind fun x2 =>
  (rdI (q.2.1 XB) L (q.1 + (3 : Int32))).bind fun x3 =>
  (gL_row x1 x2 x3 q.2).bind fun p4 =>
  (rdI (p4.2.1 XB) L (q.1 + (1 : Int32))).bind fun x5 =>
  (rdI (p4.2.1 XB) L (q.1 + (2 : Int32))).bind fun x6 =>
  (rdI (p4.2.1 XB) L (q.1 + (3 : Int32))).bind fun x7 =>
  (gM_row x5 x6 x7 p4.2).bind fun p8 =>
  if p4.1 = p8.1 then
    some (.inl (q.1 + (6 : Int32), p8.2))
  else
    some (.inr (((0 : Int32), p8.2)))
set_option maxRecDepth 8000 in
theorem gLaw_k71_ok {L d : Nat} (hd : 13 ≤ d + 1) : ∀ (q : Int32 × mT) (x : (Int32 × mT) ⊕ (Int32 × mT)), gLaw_k71 L q = some x → ∀ o, sK (fun q => Ev (d + 1) 335 18 [(0, .ref XB), (1, .ref 0), (2, .ref 294), (3, .int q.1)] [] (uS L q.2) o) (fun r => o = (some (.int r.1), uS L r.2)) x → Ev (d + 1) 335 2209 [(0, .ref XB), (1, .ref 0), (2, .ref 294), (3, .int q.1)] [] (uS L q.2) o := by
  intro q x h o ho
  unfold gLaw_k71 at h
  refine Ev.seg D_335 [(.aload_n 1, 1), (.aload_n 0, 1), (.iload_n 3, 1), (.iconst 1, 1), (.iadd, 1)] (by decide +kernel) (j := 0) (pc' := 2214) (lv' := [(0, .ref XB), (1, .ref 0), (2, .ref 294), (3, .int q.1)]) (st' := [.int (q.1 + (1 : Int32)), .ref XB, .ref 0]) rfl ?_
  obtain ⟨x1, e1, h⟩ := bd h
  refine Ev.iald D_335 (by decide +kernel) (S_aIx (by rfl) (Nat.le_refl _) e1) ?_
  refine Ev.seg D_335 [(.aload_n 0, 1), (.iload_n 3, 1), (.iconst 2, 1), (.iadd, 1)] (by decide +kernel) (j := 0) (pc' := 2219) (lv' := [(0, .ref XB), (1, .ref 0), (2, .ref 294), (3, .int q.1)]) (st' := [.int (q.1 + (2 : Int32)), .ref XB, .int x1, .ref 0]) rfl ?_
  obtain ⟨x2, e2, h⟩ := bd h
  refine Ev.iald D_335 (by decide +kernel) (S_aIx (by rfl) (Nat.le_refl _) e2) ?_
  refine Ev.seg D_335 [(.aload_n 0, 1), (.iload_n 3, 1), (.iconst 3, 1), (.iadd, 1)] (by decide +kernel) (j := 0) (pc' := 2224) (lv' := [(0, .ref XB), (1, .ref 0), (2, .ref 294), (3, .int q.1)]) (st' := [.int (q.1 + (3 : Int32)), .ref XB, .int x2, .int x1, .ref 0]) rfl ?_
  obtain ⟨x3, e3, h⟩ := bd h
  refine Ev.iald D_335 (by decide +kernel) (S_aIx (by rfl) (Nat.le_refl _) e3) ?_
  obtain ⟨p4, e4, h⟩ := bd h
  refine Ev.callv D_335 E_179 (by decide +kernel) C_11_303 0 [.int x1, .int x2, .int x3] (r := []) rfl (gd_o k_0 (by decide)) rfl (Nat.le_of_ble_eq_true rfl) (Nat.le_of_ble_eq_true rfl) (gL_row_ok (by omega)  e4) ?_
  refine Ev.seg D_335 [(.aload_n 2, 1), (.aload_n 0, 1), (.iload_n 3, 1), (.iconst 1, 1), (.iadd, 1)] (by decide +kernel) (j := 0) (pc' := 2233) (lv' := [(0, .ref XB), (1, .ref 0), (2, .ref 294), (3, .int q.1)]) (st' := [.int (q.1 + (1 : Int32)), .ref XB, .ref 294, .int p4.1]) rfl ?_
  obtain ⟨x5, e5, h⟩ := bd h
  refine Ev.iald D_335 (by decide +kernel) (S_aIx (by rfl) (Nat.le_refl _) e5) ?_
  refine Ev.seg D_335 [(.aload_n 0, 1), (.iload_n 3, 1), (.iconst 2, 1), (.iadd, 1)] (by decide +kernel) (j := 0) (pc' := 2238) (lv' := [(0, .ref XB), (1, .ref 0), (2, .ref 294), (3, .int q.1)]) (st' := [.int (q.1 + (2 : Int32)), .ref XB, .int x5, .ref 294, .int p4.1]) rfl ?_
  obtain ⟨x6, e6, h⟩ := bd h
  refine Ev.iald D_335 (by decide +kernel) (S_aIx (by rfl) (Nat.le_refl _) e6) ?_
  refine Ev.seg D_335 [(.aload_n 0, 1), (.iload_n 3, 1), (.iconst 3, 1), (.iadd, 1)] (by decide +kernel) (j := 0) (pc' := 2243) (lv' := [(0, .ref XB), (1, .ref 0), (2, .ref 294), (3, .int q.1)]) (st' := [.int (q.1 + (3 : Int32)), .ref XB, .int x6, .int x5, .ref 294, .int p4.1]) rfl ?_
  obtain ⟨x7, e7, h⟩ := bd h
  refine Ev.iald D_335 (by decide +kernel) (S_aIx (by rfl) (Nat.le_refl _) e7) ?_
  obtain ⟨p8, e8, h⟩ := bd h
  refine Ev.callv D_335 E_323 (by decide +kernel) C_11_306 294 [.int x5, .int x6, .int x7] (r := [.int p4.1]) rfl (gd_o k_294 (by decide)) rfl (Nat.le_of_ble_eq_true rfl) (Nat.le_of_ble_eq_true rfl) (gM_row_ok (by omega)  e8) ?_
  refine Ev.icmp D_335 (c := .eq) (off := 141) (by decide +kernel) (t := 2388) rfl (fun c9 => ?_) (fun c9 => ?_)
  · have c9 : p4.1 = p8.1 := of_decide_eq_true c9
    rw [if_pos c9] at h
    refine Ev.seg D_335 [(.iinc 3 6, 3), (.goto (-2373), 3)] (by decide +kernel) (j := 0) (pc' := 18) (lv' := [(3, .int (q.1 + (6 : Int32))), (0, .ref XB), (1, .ref 0), (2, .ref 294)]) (st' := []) rfl ?_
    cases h
    exact Ev.sub (lv' := [(0, .ref XB), (1, .ref 0), (2, .ref 294), (3, .int (q.1 + (6 : Int32)))]) (subL_cons rfl (subL_cons rfl (subL_cons rfl (subL_cons rfl subL_nil)))) ho
  · have c9 : ¬ p4.1 = p8.1 := of_decide_eq_false c9
    rw [if_neg c9] at h
    refine Ev.seg D_335 [(.iconst 0, 1)] (by decide +kernel) (j := 0) (pc' := 2251) (lv' := [(0, .ref XB), (1, .ref 0), (2, .ref 294), (3, .int q.1)]) (st' := [.int (0 : Int32)]) rfl ?_
    cases h
    obtain rfl : o = _ := ho
    exact Ev.zret D_335 (by decide) (by decide +kernel)
def gLaw_k72 (L : Nat) (q : Int32 × mT) : Option ((Int32 × mT) ⊕ (Int32 × mT)) :=
  (rdI (q.2.1 XB) L (q.1 + (1 : Int32))).bind fun x1 =>
  (rdI (q.2.1 XB) L (q.1 + (2 : Int32))).bind fun x2 =>
  (rdI (q.2.1 XB) L (q.1 + (3 : Int32))).bind fun x3 =>
  (rdI (q.2.1 XB) L (q.1 + (4 : Int32))).bind fun x4 =>
  (gL_write x1 x2 ((x3.toInt64 <<< ((32 : Int32).toInt64 &&& 63)) ||| (x4.toInt64 &&& (4294967295 : Int64))) q.2).bind fun p6 =>
  (rdI (p6.2.1 XB) L (q.1 + (1 : Int32))).bind fun x7 =>
  (rdI (p6.2.1 XB) L (q.1 + (2 : Int32))).bind fun x8 =>
  (rdI (p6.2.1 XB) L (q.1 + (3 : Int32))).bind fun x9 =>
  (rdI (p6.2.1 XB) L (q.1 + (4 : Int32))).bind fun x10 =>
  (gM_write x7 x8 ((x9.toInt64 <<< ((32 : Int32).toInt64 &&& 63)) ||| (x10.toInt64 &&& (4294967295 : Int64))) p6.2).bind fun p12 =>
  if p6.1 = p12.1 then
    some (.inl (q.1 + (6 : Int32), p12.2))
  else
    some (.inr (((0 : Int32), p12.2)))
set_option maxRecDepth 8000 in
theorem gLaw_k72_ok {L d : Nat} (hd : 13 ≤ d + 1) : ∀ (q : Int32 × mT) (x : (Int32 × mT) ⊕ (Int32 × mT)), gLaw_k72 L q = some x → ∀ o, sK (fun q => Ev (d + 1) 335 18 [(0, .ref XB), (1, .ref 0), (2, .ref 294), (3, .int q.1)] [] (uS L q.2) o) (fun r => o = (some (.int r.1), uS L r.2)) x → Ev (d + 1) 335 2252 [(0, .ref XB), (1, .ref 0), (2, .ref 294), (3, .int q.1)] [] (uS L q.2) o := by
  intro q x h o ho
  unfold gLaw_k72 at h
  refine Ev.seg D_335 [(.aload_n 1, 1), (.aload_n 0, 1), (.iload_n 3, 1), (.iconst 1, 1), (.iadd, 1)] (by decide +kernel) (j := 0) (pc' := 2257) (lv' := [(0, .ref XB), (1, .ref 0), (2, .ref 294), (3, .int q.1)]) (st' := [.int (q.1 + (1 : Int32)), .ref XB, .ref 0]) rfl ?_
  obtain ⟨x1, e1, h⟩ := bd h
  refine Ev.iald D_335 (by decide +kernel) (S_aIx (by rfl) (Nat.le_refl _) e1) ?_
  refine Ev.seg D_335 [(.aload_n 0, 1), (.iload_n 3, 1), (.iconst 2, 1), (.iadd, 1)] (by decide +kernel) (j := 0) (pc' := 2262) (lv' := [(0, .ref XB), (1, .ref 0), (2, .ref 294), (3, .int q.1)]) (st' := [.int (q.1 + (2 : Int32)), .ref XB, .int x1, .ref 0]) rfl ?_
  obtain ⟨x2, e2, h⟩ := bd h
  refine Ev.iald D_335 (by decide +kernel) (S_aIx (by rfl) (Nat.le_refl _) e2) ?_
  refine Ev.seg D_335 [(.aload_n 0, 1), (.iload_n 3, 1), (.iconst 3, 1), (.iadd, 1)] (by decide +kernel) (j := 0) (pc' := 2267) (lv' := [(0, .ref XB), (1, .ref 0), (2, .ref 294), (3, .int q.1)]) (st' := [.int (q.1 + (3 : Int32)), .ref XB, .int x2, .int x1, .ref 0]) rfl ?_
  obtain ⟨x3, e3, h⟩ := bd h
  refine Ev.iald D_335 (by decide +kernel) (S_aIx (by rfl) (Nat.le_refl _) e3) ?_
  refine Ev.seg D_335 [(.i2l, 1), (.bipush 32, 2), (.lshl, 1), (.aload_n 0, 1), (.iload_n 3, 1), (.iconst 4, 1), (.iadd, 1)] (by decide +kernel) (j := 0) (pc' := 2276) (lv' := [(0, .ref XB), (1, .ref 0), (2, .ref 294), (3, .int q.1)]) (st' := [.int (q.1 + (4 : Int32)), .ref XB, .long (x3.toInt64 <<< ((32 : Int32).toInt64 &&& 63)), .int x2, .int x1, .ref 0]) rfl ?_
  obtain ⟨x4, e4, h⟩ := bd h
  refine Ev.iald D_335 (by decide +kernel) (S_aIx (by rfl) (Nat.le_refl _) e4) ?_
  refine Ev.seg D_335 [(.i2l, 1)] (by decide +kernel) (j := 0) (pc' := 2278) (lv' := [(0, .ref XB), (1, .ref 0), (2, .ref 294), (3, .int q.1)]) (st' := [.long x4.toInt64, .long (x3.toInt64 <<< ((32 : Int32).toInt64 &&& 63)), .int x2, .int x1, .ref 0]) rfl ?_
  refine Ev.ldc2 D_335 (i := 307) (by decide +kernel) (x := (4294967295 : Int64)) (by decide +kernel) ?_
  refine Ev.seg D_335 [(.land, 1), (.lor, 1)] (by decide +kernel) (j := 0) (pc' := 2283) (lv' := [(0, .ref XB), (1, .ref 0), (2, .ref 294), (3, .int q.1)]) (st' := [.long ((x3.toInt64 <<< ((32 : Int32).toInt64 &&& 63)) ||| (x4.toInt64 &&& (4294967295 : Int64))), .int x2, .int x1, .ref 0]) rfl ?_
  obtain ⟨p6, e6, h⟩ := bd h
  refine Ev.callv D_335 E_180 (by decide +kernel) C_11_309 0 [.int x1, .int x2, .long ((x3.toInt64 <<< ((32 : Int32).toInt64 &&& 63)) ||| (x4.toInt64 &&& (4294967295 : Int64)))] (r := []) rfl (gd_o k_0 (by decide)) rfl (Nat.le_of_ble_eq_true rfl) (Nat.le_of_ble_eq_true rfl) (gL_write_ok (by omega)  e6) ?_
  refine Ev.seg D_335 [(.aload_n 2, 1), (.aload_n 0, 1), (.iload_n 3, 1), (.iconst 1, 1), (.iadd, 1)] (by decide +kernel) (j := 0) (pc' := 2291) (lv' := [(0, .ref XB), (1, .ref 0), (2, .ref 294), (3, .int q.1)]) (st' := [.int (q.1 + (1 : Int32)), .ref XB, .ref 294, .int p6.1]) rfl ?_
  obtain ⟨x7, e7, h⟩ := bd h
  refine Ev.iald D_335 (by decide +kernel) (S_aIx (by rfl) (Nat.le_refl _) e7) ?_
  refine Ev.seg D_335 [(.aload_n 0, 1), (.iload_n 3, 1), (.iconst 2, 1), (.iadd, 1)] (by decide +kernel) (j := 0) (pc' := 2296) (lv' := [(0, .ref XB), (1, .ref 0), (2, .ref 294), (3, .int q.1)]) (st' := [.int (q.1 + (2 : Int32)), .ref XB, .int x7, .ref 294, .int p6.1]) rfl ?_
  obtain ⟨x8, e8, h⟩ := bd h
  refine Ev.iald D_335 (by decide +kernel) (S_aIx (by rfl) (Nat.le_refl _) e8) ?_
  refine Ev.seg D_335 [(.aload_n 0, 1), (.iload_n 3, 1), (.iconst 3, 1), (.iadd, 1)] (by decide +kernel) (j := 0) (pc' := 2301) (lv' := [(0, .ref XB), (1, .ref 0), (2, .ref 294), (3, .int q.1)]) (st' := [.int (q.1 + (3 : Int32)), .ref XB, .int x8, .int x7, .ref 294, .int p6.1]) rfl ?_
  obtain ⟨x9, e9, h⟩ := bd h
  refine Ev.iald D_335 (by decide +kernel) (S_aIx (by rfl) (Nat.le_refl _) e9) ?_
  refine Ev.seg D_335 [(.i2l, 1), (.bipush 32, 2), (.lshl, 1), (.aload_n 0, 1), (.iload_n 3, 1), (.iconst 4, 1), (.iadd, 1)] (by decide +kernel) (j := 0) (pc' := 2310) (lv' := [(0, .ref XB), (1, .ref 0), (2, .ref 294), (3, .int q.1)]) (st' := [.int (q.1 + (4 : Int32)), .ref XB, .long (x9.toInt64 <<< ((32 : Int32).toInt64 &&& 63)), .int x8, .int x7, .ref 294, .int p6.1]) rfl ?_
  obtain ⟨x10, e10, h⟩ := bd h
  refine Ev.iald D_335 (by decide +kernel) (S_aIx (by rfl) (Nat.le_refl _) e10) ?_
  refine Ev.seg D_335 [(.i2l, 1)] (by decide +kernel) (j := 0) (pc' := 2312) (lv' := [(0, .ref XB), (1, .ref 0), (2, .ref 294), (3, .int q.1)]) (st' := [.long x10.toInt64, .long (x9.toInt64 <<< ((32 : Int32).toInt64 &&& 63)), .int x8, .int x7, .ref 294, .int p6.1]) rfl ?_
  refine Ev.ldc2 D_335 (i := 307) (by decide +kernel) (x := (4294967295 : Int64)) (by decide +kernel) ?_
  refine Ev.seg D_335 [(.land, 1), (.lor, 1)] (by decide +kernel) (j := 0) (pc' := 2317) (lv' := [(0, .ref XB), (1, .ref 0), (2, .ref 294), (3, .int q.1)]) (st' := [.long ((x9.toInt64 <<< ((32 : Int32).toInt64 &&& 63)) ||| (x10.toInt64 &&& (4294967295 : Int64))), .int x8, .int x7, .ref 294, .int p6.1]) rfl ?_
  obtain ⟨p12, e12, h⟩ := bd h
  refine Ev.callv D_335 E_324 (by decide +kernel) C_11_313 294 [.int x7, .int x8, .long ((x9.toInt64 <<< ((32 : Int32).toInt64 &&& 63)) ||| (x10.toInt64 &&& (4294967295 : Int64)))] (r := [.int p6.1]) rfl (gd_o k_294 (by decide)) rfl (Nat.le_of_ble_eq_true rfl) (Nat.le_of_ble_eq_true rfl) (gM_write_ok (by omega)  e12) ?_
  refine Ev.icmp D_335 (c := .eq) (off := 68) (by decide +kernel) (t := 2388) rfl (fun c13 => ?_) (fun c13 => ?_)
  · have c13 : p6.1 = p12.1 := of_decide_eq_true c13
    rw [if_pos c13] at h
    refine Ev.seg D_335 [(.iinc 3 6, 3), (.goto (-2373), 3)] (by decide +kernel) (j := 0) (pc' := 18) (lv' := [(3, .int (q.1 + (6 : Int32))), (0, .ref XB), (1, .ref 0), (2, .ref 294)]) (st' := []) rfl ?_
    cases h
    exact Ev.sub (lv' := [(0, .ref XB), (1, .ref 0), (2, .ref 294), (3, .int (q.1 + (6 : Int32)))]) (subL_cons rfl (subL_cons rfl (subL_cons rfl (subL_cons rfl subL_nil)))) ho
  · have c13 : ¬ p6.1 = p12.1 := of_decide_eq_false c13
    rw [if_neg c13] at h
    refine Ev.seg D_335 [(.iconst 0, 1)] (by decide +kernel) (j := 0) (pc' := 2324) (lv' := [(0, .ref XB), (1, .ref 0), (2, .ref 294), (3, .int q.1)]) (st' := [.int (0 : Int32)]) rfl ?_
    cases h
    obtain rfl : o = _ := ho
    exact Ev.zret D_335 (by decide) (by decide +kernel)
def gLaw_k73 (L : Nat) (q : Int32 × mT) : Option ((Int32 × mT) ⊕ (Int32 × mT)) :=
  (rdI (q.2.1 XB) L (q.1 + (1 : Int32))).bind fun x1 =>
  (rdI (q.2.1 XB) L (q.1 + (2 : Int32))).bind fun x2 =>
  (rdI (q.2.1 XB) L (q.1 + (3 : Int32))).bind fun x3 =>
  (rdI (q.2.1 XB) L (q.1 + (4 : Int32))).bind fun x4 =>
  (rdI (q.2.1 XB) L (q.1 + (5 : Int32))).bind fun x5 =>
  (gL_paste x1 x2 x3 x4 x5 q.2).bind fun p6 =>
  (rdI (p6.2.1 XB) L (q.1 + (1 : Int32))).bind fun x7 =>
  (rdI (p6.2.1 XB) L (q.1 + (2 : Int32))).bind fun x8 =>
  (rdI (p6.2.1 XB) L (q.1 + (3 : Int32))).bind fun x9 =>
  (rdI (p6.2.1 XB) L (q.1 + (4 : Int32))).bind fun x10 =>
  (rdI (p6.2.1 XB) L (q.1 + (5 : Int32))).bind fun x11 =>
  (gM_paste x7 x8 x9 x10 x11 p6.2).bind fun p12 =>
  if p6.1 = p12.1 then
    some (.inl (q.1 + (6 : Int32), p12.2))
  else
    some (.inr (((0 : Int32), p12.2)))
set_option maxRecDepth 8000 in
theorem gLaw_k73_ok {L d : Nat} (hd : 13 ≤ d + 1) : ∀ (q : Int32 × mT) (x : (Int32 × mT) ⊕ (Int32 × mT)), gLaw_k73 L q = some x → ∀ o, sK (fun q => Ev (d + 1) 335 18 [(0, .ref XB), (1, .ref 0), (2, .ref 294), (3, .int q.1)] [] (uS L q.2) o) (fun r => o = (some (.int r.1), uS L r.2)) x → Ev (d + 1) 335 2325 [(0, .ref XB), (1, .ref 0), (2, .ref 294), (3, .int q.1)] [] (uS L q.2) o := by
  intro q x h o ho
  unfold gLaw_k73 at h
  refine Ev.seg D_335 [(.aload_n 1, 1), (.aload_n 0, 1), (.iload_n 3, 1), (.iconst 1, 1), (.iadd, 1)] (by decide +kernel) (j := 0) (pc' := 2330) (lv' := [(0, .ref XB), (1, .ref 0), (2, .ref 294), (3, .int q.1)]) (st' := [.int (q.1 + (1 : Int32)), .ref XB, .ref 0]) rfl ?_
  obtain ⟨x1, e1, h⟩ := bd h
  refine Ev.iald D_335 (by decide +kernel) (S_aIx (by rfl) (Nat.le_refl _) e1) ?_
  refine Ev.seg D_335 [(.aload_n 0, 1), (.iload_n 3, 1), (.iconst 2, 1), (.iadd, 1)] (by decide +kernel) (j := 0) (pc' := 2335) (lv' := [(0, .ref XB), (1, .ref 0), (2, .ref 294), (3, .int q.1)]) (st' := [.int (q.1 + (2 : Int32)), .ref XB, .int x1, .ref 0]) rfl ?_
  obtain ⟨x2, e2, h⟩ := bd h
  refine Ev.iald D_335 (by decide +kernel) (S_aIx (by rfl) (Nat.le_refl _) e2) ?_
  refine Ev.seg D_335 [(.aload_n 0, 1), (.iload_n 3, 1), (.iconst 3, 1), (.iadd, 1)] (by decide +kernel) (j := 0) (pc' := 2340) (lv' := [(0, .ref XB), (1, .ref 0), (2, .ref 294), (3, .int q.1)]) (st' := [.int (q.1 + (3 : Int32)), .ref XB, .int x2, .int x1, .ref 0]) rfl ?_
  obtain ⟨x3, e3, h⟩ := bd h
  refine Ev.iald D_335 (by decide +kernel) (S_aIx (by rfl) (Nat.le_refl _) e3) ?_
  refine Ev.seg D_335 [(.aload_n 0, 1), (.iload_n 3, 1), (.iconst 4, 1), (.iadd, 1)] (by decide +kernel) (j := 0) (pc' := 2345) (lv' := [(0, .ref XB), (1, .ref 0), (2, .ref 294), (3, .int q.1)]) (st' := [.int (q.1 + (4 : Int32)), .ref XB, .int x3, .int x2, .int x1, .ref 0]) rfl ?_
  obtain ⟨x4, e4, h⟩ := bd h
  refine Ev.iald D_335 (by decide +kernel) (S_aIx (by rfl) (Nat.le_refl _) e4) ?_
  refine Ev.seg D_335 [(.aload_n 0, 1), (.iload_n 3, 1), (.iconst 5, 1), (.iadd, 1)] (by decide +kernel) (j := 0) (pc' := 2350) (lv' := [(0, .ref XB), (1, .ref 0), (2, .ref 294), (3, .int q.1)]) (st' := [.int (q.1 + (5 : Int32)), .ref XB, .int x4, .int x3, .int x2, .int x1, .ref 0]) rfl ?_
  obtain ⟨x5, e5, h⟩ := bd h
  refine Ev.iald D_335 (by decide +kernel) (S_aIx (by rfl) (Nat.le_refl _) e5) ?_
  obtain ⟨p6, e6, h⟩ := bd h
  refine Ev.callv D_335 E_181 (by decide +kernel) C_11_314 0 [.int x1, .int x2, .int x3, .int x4, .int x5] (r := []) rfl (gd_o k_0 (by decide)) rfl (Nat.le_of_ble_eq_true rfl) (Nat.le_of_ble_eq_true rfl) (gL_paste_ok (by omega)  e6) ?_
  refine Ev.seg D_335 [(.aload_n 2, 1), (.aload_n 0, 1), (.iload_n 3, 1), (.iconst 1, 1), (.iadd, 1)] (by decide +kernel) (j := 0) (pc' := 2359) (lv' := [(0, .ref XB), (1, .ref 0), (2, .ref 294), (3, .int q.1)]) (st' := [.int (q.1 + (1 : Int32)), .ref XB, .ref 294, .int p6.1]) rfl ?_
  obtain ⟨x7, e7, h⟩ := bd h
  refine Ev.iald D_335 (by decide +kernel) (S_aIx (by rfl) (Nat.le_refl _) e7) ?_
  refine Ev.seg D_335 [(.aload_n 0, 1), (.iload_n 3, 1), (.iconst 2, 1), (.iadd, 1)] (by decide +kernel) (j := 0) (pc' := 2364) (lv' := [(0, .ref XB), (1, .ref 0), (2, .ref 294), (3, .int q.1)]) (st' := [.int (q.1 + (2 : Int32)), .ref XB, .int x7, .ref 294, .int p6.1]) rfl ?_
  obtain ⟨x8, e8, h⟩ := bd h
  refine Ev.iald D_335 (by decide +kernel) (S_aIx (by rfl) (Nat.le_refl _) e8) ?_
  refine Ev.seg D_335 [(.aload_n 0, 1), (.iload_n 3, 1), (.iconst 3, 1), (.iadd, 1)] (by decide +kernel) (j := 0) (pc' := 2369) (lv' := [(0, .ref XB), (1, .ref 0), (2, .ref 294), (3, .int q.1)]) (st' := [.int (q.1 + (3 : Int32)), .ref XB, .int x8, .int x7, .ref 294, .int p6.1]) rfl ?_
  obtain ⟨x9, e9, h⟩ := bd h
  refine Ev.iald D_335 (by decide +kernel) (S_aIx (by rfl) (Nat.le_refl _) e9) ?_
  refine Ev.seg D_335 [(.aload_n 0, 1), (.iload_n 3, 1), (.iconst 4, 1), (.iadd, 1)] (by decide +kernel) (j := 0) (pc' := 2374) (lv' := [(0, .ref XB), (1, .ref 0), (2, .ref 294), (3, .int q.1)]) (st' := [.int (q.1 + (4 : Int32)), .ref XB, .int x9, .int x8, .int x7, .ref 294, .int p6.1]) rfl ?_
  obtain ⟨x10, e10, h⟩ := bd h
  refine Ev.iald D_335 (by decide +kernel) (S_aIx (by rfl) (Nat.le_refl _) e10) ?_
  refine Ev.seg D_335 [(.aload_n 0, 1), (.iload_n 3, 1), (.iconst 5, 1), (.iadd, 1)] (by decide +kernel) (j := 0) (pc' := 2379) (lv' := [(0, .ref XB), (1, .ref 0), (2, .ref 294), (3, .int q.1)]) (st' := [.int (q.1 + (5 : Int32)), .ref XB, .int x10, .int x9, .int x8, .int x7, .ref 294, .int p6.1]) rfl ?_
  obtain ⟨x11, e11, h⟩ := bd h
  refine Ev.iald D_335 (by decide +kernel) (S_aIx (by rfl) (Nat.le_refl _) e11) ?_
  obtain ⟨p12, e12, h⟩ := bd h
  refine Ev.callv D_335 E_326 (by decide +kernel) C_11_317 294 [.int x7, .int x8, .int x9, .int x10, .int x11] (r := [.int p6.1]) rfl (gd_o k_294 (by decide)) rfl (Nat.le_of_ble_eq_true rfl) (Nat.le_of_ble_eq_true rfl) (gM_paste_ok (by omega)  e12) ?_
  refine Ev.icmp D_335 (c := .eq) (off := 5) (by decide +kernel) (t := 2388) rfl (fun c13 => ?_) (fun c13 => ?_)
  · have c13 : p6.1 = p12.1 := of_decide_eq_true c13
    rw [if_pos c13] at h
    refine Ev.seg D_335 [(.iinc 3 6, 3), (.goto (-2373), 3)] (by decide +kernel) (j := 0) (pc' := 18) (lv' := [(3, .int (q.1 + (6 : Int32))), (0, .ref XB), (1, .ref 0), (2, .ref 294)]) (st' := []) rfl ?_
    cases h
    exact Ev.sub (lv' := [(0, .ref XB), (1, .ref 0), (2, .ref 294), (3, .int (q.1 + (6 : Int32)))]) (subL_cons rfl (subL_cons rfl (subL_cons rfl (subL_cons rfl subL_nil)))) ho
  · have c13 : ¬ p6.1 = p12.1 := of_decide_eq_false c13
    rw [if_neg c13] at h
    refine Ev.seg D_335 [(.iconst 0, 1)] (by decide +kernel) (j := 0) (pc' := 2387) (lv' := [(0, .ref XB), (1, .ref 0), (2, .ref 294), (3, .int q.1)]) (st' := [.int (0 : Int32)]) rfl ?_
    cases h
    obtain rfl : o = _ := ho
    exact Ev.zret D_335 (by decide) (by decide +kernel)
def gLaw_law_h18 (L : Nat) (q : Int32 × mT) : Option ((Int32 × mT) ⊕ (Int32 × mT)) :=
  if ((Int32.ofNat L) - (6 : Int32)) < q.1 then
    some (.inr (((1 : Int32), q.2)))
  else
    (rdI (q.2.1 XB) L q.1).bind fun x4 =>
    if (x4 &&& (127 : Int32)) = (0 : Int32) then
      gLaw_k0 L q
    else if (x4 &&& (127 : Int32)) = (1 : Int32) then
      gLaw_k1 L q
    else if (x4 &&& (127 : Int32)) = (2 : Int32) then
      gLaw_k2 L q
    else if (x4 &&& (127 : Int32)) = (3 : Int32) then
      gLaw_k3 L q
    else if (x4 &&& (127 : Int32)) = (4 : Int32) then
      gLaw_k4 L q
    else if (x4 &&& (127 : Int32)) = (5 : Int32) then
      gLaw_k5 L q
    else if (x4 &&& (127 : Int32)) = (6 : Int32) then
      gLaw_k6 L q
    else if (x4 &&& (127 : Int32)) = (7 : Int32) then
      gLaw_k7 L q
    else if (x4 &&& (127 : Int32)) = (8 : Int32) then
      gLaw_k8 L q
    else if (x4 &&& (127 : Int32)) = (9 : Int32) then
      gLaw_k9 L q
    else if (x4 &&& (127 : Int32)) = (10 : Int32) then
      gLaw_k10 L q
    else if (x4 &&& (127 : Int32)) = (11 : Int32) then
      gLaw_k11 L q
    else if (x4 &&& (127 : Int32)) = (12 : Int32) then
      gLaw_k12 L q
    else if (x4 &&& (127 : Int32)) = (13 : Int32) then
      gLaw_k13 L q
    else if (x4 &&& (127 : Int32)) = (14 : Int32) then
      gLaw_k14 L q
    else if (x4 &&& (127 : Int32)) = (15 : Int32) then
      gLaw_k15 L q
    else if (x4 &&& (127 : Int32)) = (16 : Int32) then
      gLaw_k16 L q
    else if (x4 &&& (127 : Int32)) = (17 : Int32) then
      gLaw_k17 L q
    else if (x4 &&& (127 : Int32)) = (18 : Int32) then
      gLaw_k18 L q
    else if (x4 &&& (127 : Int32)) = (19 : Int32) then
      gLaw_k19 L q
    else if (x4 &&& (127 : Int32)) = (20 : Int32) then
      gLaw_k20 L q
    else if (x4 &&& (127 : Int32)) = (21 : Int32) then
      gLaw_k21 L q
    else if (x4 &&& (127 : Int32)) = (22 : Int32) then
      gLaw_k22 L q
    else if (x4 &&& (127 : Int32)) = (23 : Int32) then
      gLaw_k23 L q
    else if (x4 &&& (127 : Int32)) = (24 : Int32) then
      gLaw_k24 L q
    else if (x4 &&& (127 : Int32)) = (25 : Int32) then
      gLaw_k25 L q
    else if (x4 &&& (127 : Int32)) = (26 : Int32) then
      gLaw_k26 L q
    else if (x4 &&& (127 : Int32)) = (27 : Int32) then
      gLaw_k27 L q
    else if (x4 &&& (127 : Int32)) = (28 : Int32) then
      gLaw_k28 L q
    else if (x4 &&& (127 : Int32)) = (29 : Int32) then
      gLaw_k29 L q
    else if (x4 &&& (127 : Int32)) = (30 : Int32) then
      gLaw_k30 L q
    else if (x4 &&& (127 : Int32)) = (31 : Int32) then
      gLaw_k31 L q
    else if (x4 &&& (127 : Int32)) = (32 : Int32) then
      gLaw_k32 L q
    else if (x4 &&& (127 : Int32)) = (33 : Int32) then
      gLaw_k33 L q
    else if (x4 &&& (127 : Int32)) = (34 : Int32) then
      gLaw_k34 L q
    else if (x4 &&& (127 : Int32)) = (35 : Int32) then
      gLaw_k35 L q
    else if (x4 &&& (127 : Int32)) = (36 : Int32) then
      gLaw_k36 L q
    else if (x4 &&& (127 : Int32)) = (37 : Int32) then
      gLaw_k37 L q
    else if (x4 &&& (127 : Int32)) = (38 : Int32) then
      gLaw_k38 L q
    else if (x4 &&& (127 : Int32)) = (39 : Int32) then
      gLaw_k39 L q
    else if (x4 &&& (127 : Int32)) = (40 : Int32) then
      gLaw_k40 L q
    else if (x4 &&& (127 : Int32)) = (41 : Int32) then
      gLaw_k41 L q
    else if (x4 &&& (127 : Int32)) = (42 : Int32) then
      gLaw_k42 L q
    else if (x4 &&& (127 : Int32)) = (43 : Int32) then
      gLaw_k43 L q
    else if (x4 &&& (127 : Int32)) = (44 : Int32) then
      gLaw_k44 L q
    else if (x4 &&& (127 : Int32)) = (45 : Int32) then
      gLaw_k45 L q
    else if (x4 &&& (127 : Int32)) = (46 : Int32) then
      gLaw_k46 L q
    else if (x4 &&& (127 : Int32)) = (47 : Int32) then
      gLaw_k47 L q
    else if (x4 &&& (127 : Int32)) = (48 : Int32) then
      gLaw_k48 L q
    else if (x4 &&& (127 : Int32)) = (49 : Int32) then
      gLaw_k49 L q
    else if (x4 &&& (127 : Int32)) = (50 : Int32) then
      gLaw_k50 L q
    else if (x4 &&& (127 : Int32)) = (51 : Int32) then
      gLaw_k51 L q
    else if (x4 &&& (127 : Int32)) = (52 : Int32) then
      gLaw_k52 L q
    else if (x4 &&& (127 : Int32)) = (53 : Int32) then
      gLaw_k53 L q
    else if (x4 &&& (127 : Int32)) = (54 : Int32) then
      gLaw_k54 L q
    else if (x4 &&& (127 : Int32)) = (55 : Int32) then
      gLaw_k55 L q
    else if (x4 &&& (127 : Int32)) = (56 : Int32) then
      gLaw_k56 L q
    else if (x4 &&& (127 : Int32)) = (57 : Int32) then
      gLaw_k57 L q
    else if (x4 &&& (127 : Int32)) = (58 : Int32) then
      gLaw_k58 L q
    else if (x4 &&& (127 : Int32)) = (59 : Int32) then
      gLaw_k59 L q
    else if (x4 &&& (127 : Int32)) = (60 : Int32) then
      gLaw_k60 L q
    else if (x4 &&& (127 : Int32)) = (61 : Int32) then
      gLaw_k61 L q
    else if (x4 &&& (127 : Int32)) = (62 : Int32) then
      gLaw_k62 L q
    else if (x4 &&& (127 : Int32)) = (63 : Int32) then
      gLaw_k63 L q
    else if (x4 &&& (127 : Int32)) = (64 : Int32) then
      gLaw_k64 L q
    else if (x4 &&& (127 : Int32)) = (65 : Int32) then
      gLaw_k65 L q
    else if (x4 &&& (127 : Int32)) = (66 : Int32) then
      gLaw_k66 L q
    else if (x4 &&& (127 : Int32)) = (67 : Int32) then
      gLaw_k67 L q
    else if (x4 &&& (127 : Int32)) = (68 : Int32) then
      gLaw_k68 L q
    else if (x4 &&& (127 : Int32)) = (69 : Int32) then
      gLaw_k69 L q
    else if (x4 &&& (127 : Int32)) = (70 : Int32) then
      gLaw_k70 L q
    else if (x4 &&& (127 : Int32)) = (71 : Int32) then
      gLaw_k71 L q
    else if (x4 &&& (127 : Int32)) = (72 : Int32) then
      gLaw_k72 L q
    else if (x4 &&& (127 : Int32)) = (73 : Int32) then
      gLaw_k73 L q
    else 
    some (.inl (q.1 + (6 : Int32), q.2))
set_option maxRecDepth 8000 in
theorem gLaw_law_h18_ok {L d : Nat} (hd : 13 ≤ d + 1)  : ∀ (q : Int32 × mT) (x : (Int32 × mT) ⊕ (Int32 × mT)), gLaw_law_h18 L q = some x → ∀ o, sK (fun q => Ev (d + 1) 335 18 [(0, .ref XB), (1, .ref 0), (2, .ref 294), (3, .int q.1)] [] (uS L q.2) o) (fun r => o = (some (.int r.1), uS L r.2)) x → Ev (d + 1) 335 18 [(0, .ref XB), (1, .ref 0), (2, .ref 294), (3, .int q.1)] [] (uS L q.2) o := by
  intro q x h o ho
  unfold gLaw_law_h18 at h
  refine Ev.seg D_335 [(.iload_n 3, 1), (.aload_n 0, 1)] (by decide +kernel) (j := 0) (pc' := 20) (lv' := [(0, .ref XB), (1, .ref 0), (2, .ref 294), (3, .int q.1)]) (st' := [.ref XB, .int q.1]) rfl ?_
  refine Ev.alen D_335 (by decide +kernel) S_aLens ?_
  refine Ev.seg D_335 [(.bipush 6, 2), (.isub, 1)] (by decide +kernel) (j := 0) (pc' := 24) (lv' := [(0, .ref XB), (1, .ref 0), (2, .ref 294), (3, .int q.1)]) (st' := [.int ((Int32.ofNat L) - (6 : Int32)), .int q.1]) rfl ?_
  refine Ev.icmp D_335 (c := .gt) (off := 2370) (by decide +kernel) (t := 2394) rfl (fun c2 => ?_) (fun c2 => ?_)
  · have c2 : ((Int32.ofNat L) - (6 : Int32)) < q.1 := of_decide_eq_true c2
    rw [if_pos c2] at h
    refine Ev.seg D_335 [(.iconst 1, 1)] (by decide +kernel) (j := 0) (pc' := 2395) (lv' := [(0, .ref XB), (1, .ref 0), (2, .ref 294), (3, .int q.1)]) (st' := [.int (1 : Int32)]) rfl ?_
    cases h
    obtain rfl : o = _ := ho
    exact Ev.zret D_335 (by decide) (by decide +kernel)
  · have c2 : ¬ ((Int32.ofNat L) - (6 : Int32)) < q.1 := of_decide_eq_false c2
    rw [if_neg c2] at h
    refine Ev.seg D_335 [(.aload_n 0, 1), (.iload_n 3, 1)] (by decide +kernel) (j := 0) (pc' := 29) (lv' := [(0, .ref XB), (1, .ref 0), (2, .ref 294), (3, .int q.1)]) (st' := [.int q.1, .ref XB]) rfl ?_
    obtain ⟨x4, e4, h⟩ := bd h
    refine Ev.iald D_335 (by decide +kernel) (S_aIx (by rfl) (Nat.le_refl _) e4) ?_
    refine Ev.seg D_335 [(.bipush 127, 2), (.iand, 1)] (by decide +kernel) (j := 0) (pc' := 33) (lv' := [(0, .ref XB), (1, .ref 0), (2, .ref 294), (3, .int q.1)]) (st' := [.int (x4 &&& (127 : Int32))]) rfl ?_
    by_cases c5_0 : (x4 &&& (127 : Int32)) = (0 : Int32)
    · rw [if_pos c5_0] at h
      refine Ev.tab D_335 (len := 311) (df := 2355) (lo := 0) (hi := 73) (offs := #[311, 374, 397, 410, 433, 466, 499, 532, 565, 598, 631, 654, 687, 710, 733, 756, 789, 812, 825, 848, 861, 904, 917, 940, 973, 1006, 1029, 1052, 1075, 1088, 1111, 1134, 1167, 1200, 1233, 1256, 1269, 1292, 1305, 1328, 1351, 1374, 1397, 1430, 1453, 1476, 1499, 1512, 1525, 1548, 1561, 1574, 1597, 1630, 1653, 1676, 1699, 1742, 1775, 1808, 1852, 1896, 1939, 1972, 1985, 1998, 2031, 2074, 2107, 2130, 2153, 2176, 2219, 2292]) (by decide +kernel) (off := 311) (t := 344) (by rw [c5_0]; decide +kernel) rfl ?_
      exact Ev.sub2 (gLaw_k0_ok hd q x h o ho) (subL_cons rfl (subL_cons rfl (subL_cons rfl (subL_cons rfl subL_nil))))
    rw [if_neg c5_0] at h
    by_cases c5_1 : (x4 &&& (127 : Int32)) = (1 : Int32)
    · rw [if_pos c5_1] at h
      refine Ev.tab D_335 (len := 311) (df := 2355) (lo := 0) (hi := 73) (offs := #[311, 374, 397, 410, 433, 466, 499, 532, 565, 598, 631, 654, 687, 710, 733, 756, 789, 812, 825, 848, 861, 904, 917, 940, 973, 1006, 1029, 1052, 1075, 1088, 1111, 1134, 1167, 1200, 1233, 1256, 1269, 1292, 1305, 1328, 1351, 1374, 1397, 1430, 1453, 1476, 1499, 1512, 1525, 1548, 1561, 1574, 1597, 1630, 1653, 1676, 1699, 1742, 1775, 1808, 1852, 1896, 1939, 1972, 1985, 1998, 2031, 2074, 2107, 2130, 2153, 2176, 2219, 2292]) (by decide +kernel) (off := 374) (t := 407) (by rw [c5_1]; decide +kernel) rfl ?_
      exact Ev.sub2 (gLaw_k1_ok hd q x h o ho) (subL_cons rfl (subL_cons rfl (subL_cons rfl (subL_cons rfl subL_nil))))
    rw [if_neg c5_1] at h
    by_cases c5_2 : (x4 &&& (127 : Int32)) = (2 : Int32)
    · rw [if_pos c5_2] at h
      refine Ev.tab D_335 (len := 311) (df := 2355) (lo := 0) (hi := 73) (offs := #[311, 374, 397, 410, 433, 466, 499, 532, 565, 598, 631, 654, 687, 710, 733, 756, 789, 812, 825, 848, 861, 904, 917, 940, 973, 1006, 1029, 1052, 1075, 1088, 1111, 1134, 1167, 1200, 1233, 1256, 1269, 1292, 1305, 1328, 1351, 1374, 1397, 1430, 1453, 1476, 1499, 1512, 1525, 1548, 1561, 1574, 1597, 1630, 1653, 1676, 1699, 1742, 1775, 1808, 1852, 1896, 1939, 1972, 1985, 1998, 2031, 2074, 2107, 2130, 2153, 2176, 2219, 2292]) (by decide +kernel) (off := 397) (t := 430) (by rw [c5_2]; decide +kernel) rfl ?_
      exact Ev.sub2 (gLaw_k2_ok hd q x h o ho) (subL_cons rfl (subL_cons rfl (subL_cons rfl (subL_cons rfl subL_nil))))
    rw [if_neg c5_2] at h
    by_cases c5_3 : (x4 &&& (127 : Int32)) = (3 : Int32)
    · rw [if_pos c5_3] at h
      refine Ev.tab D_335 (len := 311) (df := 2355) (lo := 0) (hi := 73) (offs := #[311, 374, 397, 410, 433, 466, 499, 532, 565, 598, 631, 654, 687, 710, 733, 756, 789, 812, 825, 848, 861, 904, 917, 940, 973, 1006, 1029, 1052, 1075, 1088, 1111, 1134, 1167, 1200, 1233, 1256, 1269, 1292, 1305, 1328, 1351, 1374, 1397, 1430, 1453, 1476, 1499, 1512, 1525, 1548, 1561, 1574, 1597, 1630, 1653, 1676, 1699, 1742, 1775, 1808, 1852, 1896, 1939, 1972, 1985, 1998, 2031, 2074, 2107, 2130, 2153, 2176, 2219, 2292]) (by decide +kernel) (off := 410) (t := 443) (by rw [c5_3]; decide +kernel) rfl ?_
      exact Ev.sub2 (gLaw_k3_ok hd q x h o ho) (subL_cons rfl (subL_cons rfl (subL_cons rfl (subL_cons rfl subL_nil))))
    rw [if_neg c5_3] at h
    by_cases c5_4 : (x4 &&& (127 : Int32)) = (4 : Int32)
    · rw [if_pos c5_4] at h
      refine Ev.tab D_335 (len := 311) (df := 2355) (lo := 0) (hi := 73) (offs := #[311, 374, 397, 410, 433, 466, 499, 532, 565, 598, 631, 654, 687, 710, 733, 756, 789, 812, 825, 848, 861, 904, 917, 940, 973, 1006, 1029, 1052, 1075, 1088, 1111, 1134, 1167, 1200, 1233, 1256, 1269, 1292, 1305, 1328, 1351, 1374, 1397, 1430, 1453, 1476, 1499, 1512, 1525, 1548, 1561, 1574, 1597, 1630, 1653, 1676, 1699, 1742, 1775, 1808, 1852, 1896, 1939, 1972, 1985, 1998, 2031, 2074, 2107, 2130, 2153, 2176, 2219, 2292]) (by decide +kernel) (off := 433) (t := 466) (by rw [c5_4]; decide +kernel) rfl ?_
      exact Ev.sub2 (gLaw_k4_ok hd q x h o ho) (subL_cons rfl (subL_cons rfl (subL_cons rfl (subL_cons rfl subL_nil))))
    rw [if_neg c5_4] at h
    by_cases c5_5 : (x4 &&& (127 : Int32)) = (5 : Int32)
    · rw [if_pos c5_5] at h
      refine Ev.tab D_335 (len := 311) (df := 2355) (lo := 0) (hi := 73) (offs := #[311, 374, 397, 410, 433, 466, 499, 532, 565, 598, 631, 654, 687, 710, 733, 756, 789, 812, 825, 848, 861, 904, 917, 940, 973, 1006, 1029, 1052, 1075, 1088, 1111, 1134, 1167, 1200, 1233, 1256, 1269, 1292, 1305, 1328, 1351, 1374, 1397, 1430, 1453, 1476, 1499, 1512, 1525, 1548, 1561, 1574, 1597, 1630, 1653, 1676, 1699, 1742, 1775, 1808, 1852, 1896, 1939, 1972, 1985, 1998, 2031, 2074, 2107, 2130, 2153, 2176, 2219, 2292]) (by decide +kernel) (off := 466) (t := 499) (by rw [c5_5]; decide +kernel) rfl ?_
      exact Ev.sub2 (gLaw_k5_ok hd q x h o ho) (subL_cons rfl (subL_cons rfl (subL_cons rfl (subL_cons rfl subL_nil))))
    rw [if_neg c5_5] at h
    by_cases c5_6 : (x4 &&& (127 : Int32)) = (6 : Int32)
    · rw [if_pos c5_6] at h
      refine Ev.tab D_335 (len := 311) (df := 2355) (lo := 0) (hi := 73) (offs := #[311, 374, 397, 410, 433, 466, 499, 532, 565, 598, 631, 654, 687, 710, 733, 756, 789, 812, 825, 848, 861, 904, 917, 940, 973, 1006, 1029, 1052, 1075, 1088, 1111, 1134, 1167, 1200, 1233, 1256, 1269, 1292, 1305, 1328, 1351, 1374, 1397, 1430, 1453, 1476, 1499, 1512, 1525, 1548, 1561, 1574, 1597, 1630, 1653, 1676, 1699, 1742, 1775, 1808, 1852, 1896, 1939, 1972, 1985, 1998, 2031, 2074, 2107, 2130, 2153, 2176, 2219, 2292]) (by decide +kernel) (off := 499) (t := 532) (by rw [c5_6]; decide +kernel) rfl ?_
      exact Ev.sub2 (gLaw_k6_ok hd q x h o ho) (subL_cons rfl (subL_cons rfl (subL_cons rfl (subL_cons rfl subL_nil))))
    rw [if_neg c5_6] at h
    by_cases c5_7 : (x4 &&& (127 : Int32)) = (7 : Int32)
    · rw [if_pos c5_7] at h
      refine Ev.tab D_335 (len := 311) (df := 2355) (lo := 0) (hi := 73) (offs := #[311, 374, 397, 410, 433, 466, 499, 532, 565, 598, 631, 654, 687, 710, 733, 756, 789, 812, 825, 848, 861, 904, 917, 940, 973, 1006, 1029, 1052, 1075, 1088, 1111, 1134, 1167, 1200, 1233, 1256, 1269, 1292, 1305, 1328, 1351, 1374, 1397, 1430, 1453, 1476, 1499, 1512, 1525, 1548, 1561, 1574, 1597, 1630, 1653, 1676, 1699, 1742, 1775, 1808, 1852, 1896, 1939, 1972, 1985, 1998, 2031, 2074, 2107, 2130, 2153, 2176, 2219, 2292]) (by decide +kernel) (off := 532) (t := 565) (by rw [c5_7]; decide +kernel) rfl ?_
      exact Ev.sub2 (gLaw_k7_ok hd q x h o ho) (subL_cons rfl (subL_cons rfl (subL_cons rfl (subL_cons rfl subL_nil))))
    rw [if_neg c5_7] at h
    by_cases c5_8 : (x4 &&& (127 : Int32)) = (8 : Int32)
    · rw [if_pos c5_8] at h
      refine Ev.tab D_335 (len := 311) (df := 2355) (lo := 0) (hi := 73) (offs := #[311, 374, 397, 410, 433, 466, 499, 532, 565, 598, 631, 654, 687, 710, 733, 756, 789, 812, 825, 848, 861, 904, 917, 940, 973, 1006, 1029, 1052, 1075, 1088, 1111, 1134, 1167, 1200, 1233, 1256, 1269, 1292, 1305, 1328, 1351, 1374, 1397, 1430, 1453, 1476, 1499, 1512, 1525, 1548, 1561, 1574, 1597, 1630, 1653, 1676, 1699, 1742, 1775, 1808, 1852, 1896, 1939, 1972, 1985, 1998, 2031, 2074, 2107, 2130, 2153, 2176, 2219, 2292]) (by decide +kernel) (off := 565) (t := 598) (by rw [c5_8]; decide +kernel) rfl ?_
      exact Ev.sub2 (gLaw_k8_ok hd q x h o ho) (subL_cons rfl (subL_cons rfl (subL_cons rfl (subL_cons rfl subL_nil))))
    rw [if_neg c5_8] at h
    by_cases c5_9 : (x4 &&& (127 : Int32)) = (9 : Int32)
    · rw [if_pos c5_9] at h
      refine Ev.tab D_335 (len := 311) (df := 2355) (lo := 0) (hi := 73) (offs := #[311, 374, 397, 410, 433, 466, 499, 532, 565, 598, 631, 654, 687, 710, 733, 756, 789, 812, 825, 848, 861, 904, 917, 940, 973, 1006, 1029, 1052, 1075, 1088, 1111, 1134, 1167, 1200, 1233, 1256, 1269, 1292, 1305, 1328, 1351, 1374, 1397, 1430, 1453, 1476, 1499, 1512, 1525, 1548, 1561, 1574, 1597, 1630, 1653, 1676, 1699, 1742, 1775, 1808, 1852, 1896, 1939, 1972, 1985, 1998, 2031, 2074, 2107, 2130, 2153, 2176, 2219, 2292]) (by decide +kernel) (off := 598) (t := 631) (by rw [c5_9]; decide +kernel) rfl ?_
      exact Ev.sub2 (gLaw_k9_ok hd q x h o ho) (subL_cons rfl (subL_cons rfl (subL_cons rfl (subL_cons rfl subL_nil))))
    rw [if_neg c5_9] at h
    by_cases c5_10 : (x4 &&& (127 : Int32)) = (10 : Int32)
    · rw [if_pos c5_10] at h
      refine Ev.tab D_335 (len := 311) (df := 2355) (lo := 0) (hi := 73) (offs := #[311, 374, 397, 410, 433, 466, 499, 532, 565, 598, 631, 654, 687, 710, 733, 756, 789, 812, 825, 848, 861, 904, 917, 940, 973, 1006, 1029, 1052, 1075, 1088, 1111, 1134, 1167, 1200, 1233, 1256, 1269, 1292, 1305, 1328, 1351, 1374, 1397, 1430, 1453, 1476, 1499, 1512, 1525, 1548, 1561, 1574, 1597, 1630, 1653, 1676, 1699, 1742, 1775, 1808, 1852, 1896, 1939, 1972, 1985, 1998, 2031, 2074, 2107, 2130, 2153, 2176, 2219, 2292]) (by decide +kernel) (off := 631) (t := 664) (by rw [c5_10]; decide +kernel) rfl ?_
      exact Ev.sub2 (gLaw_k10_ok hd q x h o ho) (subL_cons rfl (subL_cons rfl (subL_cons rfl (subL_cons rfl subL_nil))))
    rw [if_neg c5_10] at h
    by_cases c5_11 : (x4 &&& (127 : Int32)) = (11 : Int32)
    · rw [if_pos c5_11] at h
      refine Ev.tab D_335 (len := 311) (df := 2355) (lo := 0) (hi := 73) (offs := #[311, 374, 397, 410, 433, 466, 499, 532, 565, 598, 631, 654, 687, 710, 733, 756, 789, 812, 825, 848, 861, 904, 917, 940, 973, 1006, 1029, 1052, 1075, 1088, 1111, 1134, 1167, 1200, 1233, 1256, 1269, 1292, 1305, 1328, 1351, 1374, 1397, 1430, 1453, 1476, 1499, 1512, 1525, 1548, 1561, 1574, 1597, 1630, 1653, 1676, 1699, 1742, 1775, 1808, 1852, 1896, 1939, 1972, 1985, 1998, 2031, 2074, 2107, 2130, 2153, 2176, 2219, 2292]) (by decide +kernel) (off := 654) (t := 687) (by rw [c5_11]; decide +kernel) rfl ?_
      exact Ev.sub2 (gLaw_k11_ok hd q x h o ho) (subL_cons rfl (subL_cons rfl (subL_cons rfl (subL_cons rfl subL_nil))))
    rw [if_neg c5_11] at h
    by_cases c5_12 : (x4 &&& (127 : Int32)) = (12 : Int32)
    · rw [if_pos c5_12] at h
      refine Ev.tab D_335 (len := 311) (df := 2355) (lo := 0) (hi := 73) (offs := #[311, 374, 397, 410, 433, 466, 499, 532, 565, 598, 631, 654, 687, 710, 733, 756, 789, 812, 825, 848, 861, 904, 917, 940, 973, 1006, 1029, 1052, 1075, 1088, 1111, 1134, 1167, 1200, 1233, 1256, 1269, 1292, 1305, 1328, 1351, 1374, 1397, 1430, 1453, 1476, 1499, 1512, 1525, 1548, 1561, 1574, 1597, 1630, 1653, 1676, 1699, 1742, 1775, 1808, 1852, 1896, 1939, 1972, 1985, 1998, 2031, 2074, 2107, 2130, 2153, 2176, 2219, 2292]) (by decide +kernel) (off := 687) (t := 720) (by rw [c5_12]; decide +kernel) rfl ?_
      exact Ev.sub2 (gLaw_k12_ok hd q x h o ho) (subL_cons rfl (subL_cons rfl (subL_cons rfl (subL_cons rfl subL_nil))))
    rw [if_neg c5_12] at h
    by_cases c5_13 : (x4 &&& (127 : Int32)) = (13 : Int32)
    · rw [if_pos c5_13] at h
      refine Ev.tab D_335 (len := 311) (df := 2355) (lo := 0) (hi := 73) (offs := #[311, 374, 397, 410, 433, 466, 499, 532, 565, 598, 631, 654, 687, 710, 733, 756, 789, 812, 825, 848, 861, 904, 917, 940, 973, 1006, 1029, 1052, 1075, 1088, 1111, 1134, 1167, 1200, 1233, 1256, 1269, 1292, 1305, 1328, 1351, 1374, 1397, 1430, 1453, 1476, 1499, 1512, 1525, 1548, 1561, 1574, 1597, 1630, 1653, 1676, 1699, 1742, 1775, 1808, 1852, 1896, 1939, 1972, 1985, 1998, 2031, 2074, 2107, 2130, 2153, 2176, 2219, 2292]) (by decide +kernel) (off := 710) (t := 743) (by rw [c5_13]; decide +kernel) rfl ?_
      exact Ev.sub2 (gLaw_k13_ok hd q x h o ho) (subL_cons rfl (subL_cons rfl (subL_cons rfl (subL_cons rfl subL_nil))))
    rw [if_neg c5_13] at h
    by_cases c5_14 : (x4 &&& (127 : Int32)) = (14 : Int32)
    · rw [if_pos c5_14] at h
      refine Ev.tab D_335 (len := 311) (df := 2355) (lo := 0) (hi := 73) (offs := #[311, 374, 397, 410, 433, 466, 499, 532, 565, 598, 631, 654, 687, 710, 733, 756, 789, 812, 825, 848, 861, 904, 917, 940, 973, 1006, 1029, 1052, 1075, 1088, 1111, 1134, 1167, 1200, 1233, 1256, 1269, 1292, 1305, 1328, 1351, 1374, 1397, 1430, 1453, 1476, 1499, 1512, 1525, 1548, 1561, 1574, 1597, 1630, 1653, 1676, 1699, 1742, 1775, 1808, 1852, 1896, 1939, 1972, 1985, 1998, 2031, 2074, 2107, 2130, 2153, 2176, 2219, 2292]) (by decide +kernel) (off := 733) (t := 766) (by rw [c5_14]; decide +kernel) rfl ?_
      exact Ev.sub2 (gLaw_k14_ok hd q x h o ho) (subL_cons rfl (subL_cons rfl (subL_cons rfl (subL_cons rfl subL_nil))))
    rw [if_neg c5_14] at h
    by_cases c5_15 : (x4 &&& (127 : Int32)) = (15 : Int32)
    · rw [if_pos c5_15] at h
      refine Ev.tab D_335 (len := 311) (df := 2355) (lo := 0) (hi := 73) (offs := #[311, 374, 397, 410, 433, 466, 499, 532, 565, 598, 631, 654, 687, 710, 733, 756, 789, 812, 825, 848, 861, 904, 917, 940, 973, 1006, 1029, 1052, 1075, 1088, 1111, 1134, 1167, 1200, 1233, 1256, 1269, 1292, 1305, 1328, 1351, 1374, 1397, 1430, 1453, 1476, 1499, 1512, 1525, 1548, 1561, 1574, 1597, 1630, 1653, 1676, 1699, 1742, 1775, 1808, 1852, 1896, 1939, 1972, 1985, 1998, 2031, 2074, 2107, 2130, 2153, 2176, 2219, 2292]) (by decide +kernel) (off := 756) (t := 789) (by rw [c5_15]; decide +kernel) rfl ?_
      exact Ev.sub2 (gLaw_k15_ok hd q x h o ho) (subL_cons rfl (subL_cons rfl (subL_cons rfl (subL_cons rfl subL_nil))))
    rw [if_neg c5_15] at h
    by_cases c5_16 : (x4 &&& (127 : Int32)) = (16 : Int32)
    · rw [if_pos c5_16] at h
      refine Ev.tab D_335 (len := 311) (df := 2355) (lo := 0) (hi := 73) (offs := #[311, 374, 397, 410, 433, 466, 499, 532, 565, 598, 631, 654, 687, 710, 733, 756, 789, 812, 825, 848, 861, 904, 917, 940, 973, 1006, 1029, 1052, 1075, 1088, 1111, 1134, 1167, 1200, 1233, 1256, 1269, 1292, 1305, 1328, 1351, 1374, 1397, 1430, 1453, 1476, 1499, 1512, 1525, 1548, 1561, 1574, 1597, 1630, 1653, 1676, 1699, 1742, 1775, 1808, 1852, 1896, 1939, 1972, 1985, 1998, 2031, 2074, 2107, 2130, 2153, 2176, 2219, 2292]) (by decide +kernel) (off := 789) (t := 822) (by rw [c5_16]; decide +kernel) rfl ?_
      exact Ev.sub2 (gLaw_k16_ok hd q x h o ho) (subL_cons rfl (subL_cons rfl (subL_cons rfl (subL_cons rfl subL_nil))))
    rw [if_neg c5_16] at h
    by_cases c5_17 : (x4 &&& (127 : Int32)) = (17 : Int32)
    · rw [if_pos c5_17] at h
      refine Ev.tab D_335 (len := 311) (df := 2355) (lo := 0) (hi := 73) (offs := #[311, 374, 397, 410, 433, 466, 499, 532, 565, 598, 631, 654, 687, 710, 733, 756, 789, 812, 825, 848, 861, 904, 917, 940, 973, 1006, 1029, 1052, 1075, 1088, 1111, 1134, 1167, 1200, 1233, 1256, 1269, 1292, 1305, 1328, 1351, 1374, 1397, 1430, 1453, 1476, 1499, 1512, 1525, 1548, 1561, 1574, 1597, 1630, 1653, 1676, 1699, 1742, 1775, 1808, 1852, 1896, 1939, 1972, 1985, 1998, 2031, 2074, 2107, 2130, 2153, 2176, 2219, 2292]) (by decide +kernel) (off := 812) (t := 845) (by rw [c5_17]; decide +kernel) rfl ?_
      exact Ev.sub2 (gLaw_k17_ok hd q x h o ho) (subL_cons rfl (subL_cons rfl (subL_cons rfl (subL_cons rfl subL_nil))))
    rw [if_neg c5_17] at h
    by_cases c5_18 : (x4 &&& (127 : Int32)) = (18 : Int32)
    · rw [if_pos c5_18] at h
      refine Ev.tab D_335 (len := 311) (df := 2355) (lo := 0) (hi := 73) (offs := #[311, 374, 397, 410, 433, 466, 499, 532, 565, 598, 631, 654, 687, 710, 733, 756, 789, 812, 825, 848, 861, 904, 917, 940, 973, 1006, 1029, 1052, 1075, 1088, 1111, 1134, 1167, 1200, 1233, 1256, 1269, 1292, 1305, 1328, 1351, 1374, 1397, 1430, 1453, 1476, 1499, 1512, 1525, 1548, 1561, 1574, 1597, 1630, 1653, 1676, 1699, 1742, 1775, 1808, 1852, 1896, 1939, 1972, 1985, 1998, 2031, 2074, 2107, 2130, 2153, 2176, 2219, 2292]) (by decide +kernel) (off := 825) (t := 858) (by rw [c5_18]; decide +kernel) rfl ?_
      exact Ev.sub2 (gLaw_k18_ok hd q x h o ho) (subL_cons rfl (subL_cons rfl (subL_cons rfl (subL_cons rfl subL_nil))))
    rw [if_neg c5_18] at h
    by_cases c5_19 : (x4 &&& (127 : Int32)) = (19 : Int32)
    · rw [if_pos c5_19] at h
      refine Ev.tab D_335 (len := 311) (df := 2355) (lo := 0) (hi := 73) (offs := #[311, 374, 397, 410, 433, 466, 499, 532, 565, 598, 631, 654, 687, 710, 733, 756, 789, 812, 825, 848, 861, 904, 917, 940, 973, 1006, 1029, 1052, 1075, 1088, 1111, 1134, 1167, 1200, 1233, 1256, 1269, 1292, 1305, 1328, 1351, 1374, 1397, 1430, 1453, 1476, 1499, 1512, 1525, 1548, 1561, 1574, 1597, 1630, 1653, 1676, 1699, 1742, 1775, 1808, 1852, 1896, 1939, 1972, 1985, 1998, 2031, 2074, 2107, 2130, 2153, 2176, 2219, 2292]) (by decide +kernel) (off := 848) (t := 881) (by rw [c5_19]; decide +kernel) rfl ?_
      exact Ev.sub2 (gLaw_k19_ok hd q x h o ho) (subL_cons rfl (subL_cons rfl (subL_cons rfl (subL_cons rfl subL_nil))))
    rw [if_neg c5_19] at h
    by_cases c5_20 : (x4 &&& (127 : Int32)) = (20 : Int32)
    · rw [if_pos c5_20] at h
      refine Ev.tab D_335 (len := 311) (df := 2355) (lo := 0) (hi := 73) (offs := #[311, 374, 397, 410, 433, 466, 499, 532, 565, 598, 631, 654, 687, 710, 733, 756, 789, 812, 825, 848, 861, 904, 917, 940, 973, 1006, 1029, 1052, 1075, 1088, 1111, 1134, 1167, 1200, 1233, 1256, 1269, 1292, 1305, 1328, 1351, 1374, 1397, 1430, 1453, 1476, 1499, 1512, 1525, 1548, 1561, 1574, 1597, 1630, 1653, 1676, 1699, 1742, 1775, 1808, 1852, 1896, 1939, 1972, 1985, 1998, 2031, 2074, 2107, 2130, 2153, 2176, 2219, 2292]) (by decide +kernel) (off := 861) (t := 894) (by rw [c5_20]; decide +kernel) rfl ?_
      exact Ev.sub2 (gLaw_k20_ok hd q x h o ho) (subL_cons rfl (subL_cons rfl (subL_cons rfl (subL_cons rfl subL_nil))))
    rw [if_neg c5_20] at h
    by_cases c5_21 : (x4 &&& (127 : Int32)) = (21 : Int32)
    · rw [if_pos c5_21] at h
      refine Ev.tab D_335 (len := 311) (df := 2355) (lo := 0) (hi := 73) (offs := #[311, 374, 397, 410, 433, 466, 499, 532, 565, 598, 631, 654, 687, 710, 733, 756, 789, 812, 825, 848, 861, 904, 917, 940, 973, 1006, 1029, 1052, 1075, 1088, 1111, 1134, 1167, 1200, 1233, 1256, 1269, 1292, 1305, 1328, 1351, 1374, 1397, 1430, 1453, 1476, 1499, 1512, 1525, 1548, 1561, 1574, 1597, 1630, 1653, 1676, 1699, 1742, 1775, 1808, 1852, 1896, 1939, 1972, 1985, 1998, 2031, 2074, 2107, 2130, 2153, 2176, 2219, 2292]) (by decide +kernel) (off := 904) (t := 937) (by rw [c5_21]; decide +kernel) rfl ?_
      exact Ev.sub2 (gLaw_k21_ok hd q x h o ho) (subL_cons rfl (subL_cons rfl (subL_cons rfl (subL_cons rfl subL_nil))))
    rw [if_neg c5_21] at h
    by_cases c5_22 : (x4 &&& (127 : Int32)) = (22 : Int32)
    · rw [if_pos c5_22] at h
      refine Ev.tab D_335 (len := 311) (df := 2355) (lo := 0) (hi := 73) (offs := #[311, 374, 397, 410, 433, 466, 499, 532, 565, 598, 631, 654, 687, 710, 733, 756, 789, 812, 825, 848, 861, 904, 917, 940, 973, 1006, 1029, 1052, 1075, 1088, 1111, 1134, 1167, 1200, 1233, 1256, 1269, 1292, 1305, 1328, 1351, 1374, 1397, 1430, 1453, 1476, 1499, 1512, 1525, 1548, 1561, 1574, 1597, 1630, 1653, 1676, 1699, 1742, 1775, 1808, 1852, 1896, 1939, 1972, 1985, 1998, 2031, 2074, 2107, 2130, 2153, 2176, 2219, 2292]) (by decide +kernel) (off := 917) (t := 950) (by rw [c5_22]; decide +kernel) rfl ?_
      exact Ev.sub2 (gLaw_k22_ok hd q x h o ho) (subL_cons rfl (subL_cons rfl (subL_cons rfl (subL_cons rfl subL_nil))))
    rw [if_neg c5_22] at h
    by_cases c5_23 : (x4 &&& (127 : Int32)) = (23 : Int32)
    · rw [if_pos c5_23] at h
      refine Ev.tab D_335 (len := 311) (df := 2355) (lo := 0) (hi := 73) (offs := #[311, 374, 397, 410, 433, 466, 499, 532, 565, 598, 631, 654, 687, 710, 733, 756, 789, 812, 825, 848, 861, 904, 917, 940, 973, 1006, 1029, 1052, 1075, 1088, 1111, 1134, 1167, 1200, 1233, 1256, 1269, 1292, 1305, 1328, 1351, 1374, 1397, 1430, 1453, 1476, 1499, 1512, 1525, 1548, 1561, 1574, 1597, 1630, 1653, 1676, 1699, 1742, 1775, 1808, 1852, 1896, 1939, 1972, 1985, 1998, 2031, 2074, 2107, 2130, 2153, 2176, 2219, 2292]) (by decide +kernel) (off := 940) (t := 973) (by rw [c5_23]; decide +kernel) rfl ?_
      exact Ev.sub2 (gLaw_k23_ok hd q x h o ho) (subL_cons rfl (subL_cons rfl (subL_cons rfl (subL_cons rfl subL_nil))))
    rw [if_neg c5_23] at h
    by_cases c5_24 : (x4 &&& (127 : Int32)) = (24 : Int32)
    · rw [if_pos c5_24] at h
      refine Ev.tab D_335 (len := 311) (df := 2355) (lo := 0) (hi := 73) (offs := #[311, 374, 397, 410, 433, 466, 499, 532, 565, 598, 631, 654, 687, 710, 733, 756, 789, 812, 825, 848, 861, 904, 917, 940, 973, 1006, 1029, 1052, 1075, 1088, 1111, 1134, 1167, 1200, 1233, 1256, 1269, 1292, 1305, 1328, 1351, 1374, 1397, 1430, 1453, 1476, 1499, 1512, 1525, 1548, 1561, 1574, 1597, 1630, 1653, 1676, 1699, 1742, 1775, 1808, 1852, 1896, 1939, 1972, 1985, 1998, 2031, 2074, 2107, 2130, 2153, 2176, 2219, 2292]) (by decide +kernel) (off := 973) (t := 1006) (by rw [c5_24]; decide +kernel) rfl ?_
      exact Ev.sub2 (gLaw_k24_ok hd q x h o ho) (subL_cons rfl (subL_cons rfl (subL_cons rfl (subL_cons rfl subL_nil))))
    rw [if_neg c5_24] at h
    by_cases c5_25 : (x4 &&& (127 : Int32)) = (25 : Int32)
    · rw [if_pos c5_25] at h
      refine Ev.tab D_335 (len := 311) (df := 2355) (lo := 0) (hi := 73) (offs := #[311, 374, 397, 410, 433, 466, 499, 532, 565, 598, 631, 654, 687, 710, 733, 756, 789, 812, 825, 848, 861, 904, 917, 940, 973, 1006, 1029, 1052, 1075, 1088, 1111, 1134, 1167, 1200, 1233, 1256, 1269, 1292, 1305, 1328, 1351, 1374, 1397, 1430, 1453, 1476, 1499, 1512, 1525, 1548, 1561, 1574, 1597, 1630, 1653, 1676, 1699, 1742, 1775, 1808, 1852, 1896, 1939, 1972, 1985, 1998, 2031, 2074, 2107, 2130, 2153, 2176, 2219, 2292]) (by decide +kernel) (off := 1006) (t := 1039) (by rw [c5_25]; decide +kernel) rfl ?_
      exact Ev.sub2 (gLaw_k25_ok hd q x h o ho) (subL_cons rfl (subL_cons rfl (subL_cons rfl (subL_cons rfl subL_nil))))
    rw [if_neg c5_25] at h
    by_cases c5_26 : (x4 &&& (127 : Int32)) = (26 : Int32)
    · rw [if_pos c5_26] at h
      refine Ev.tab D_335 (len := 311) (df := 2355) (lo := 0) (hi := 73) (offs := #[311, 374, 397, 410, 433, 466, 499, 532, 565, 598, 631, 654, 687, 710, 733, 756, 789, 812, 825, 848, 861, 904, 917, 940, 973, 1006, 1029, 1052, 1075, 1088, 1111, 1134, 1167, 1200, 1233, 1256, 1269, 1292, 1305, 1328, 1351, 1374, 1397, 1430, 1453, 1476, 1499, 1512, 1525, 1548, 1561, 1574, 1597, 1630, 1653, 1676, 1699, 1742, 1775, 1808, 1852, 1896, 1939, 1972, 1985, 1998, 2031, 2074, 2107, 2130, 2153, 2176, 2219, 2292]) (by decide +kernel) (off := 1029) (t := 1062) (by rw [c5_26]; decide +kernel) rfl ?_
      exact Ev.sub2 (gLaw_k26_ok hd q x h o ho) (subL_cons rfl (subL_cons rfl (subL_cons rfl (subL_cons rfl subL_nil))))
    rw [if_neg c5_26] at h
    by_cases c5_27 : (x4 &&& (127 : Int32)) = (27 : Int32)
    · rw [if_pos c5_27] at h
      refine Ev.tab D_335 (len := 311) (df := 2355) (lo := 0) (hi := 73) (offs := #[311, 374, 397, 410, 433, 466, 499, 532, 565, 598, 631, 654, 687, 710, 733, 756, 789, 812, 825, 848, 861, 904, 917, 940, 973, 1006, 1029, 1052, 1075, 1088, 1111, 1134, 1167, 1200, 1233, 1256, 1269, 1292, 1305, 1328, 1351, 1374, 1397, 1430, 1453, 1476, 1499, 1512, 1525, 1548, 1561, 1574, 1597, 1630, 1653, 1676, 1699, 1742, 1775, 1808, 1852, 1896, 1939, 1972, 1985, 1998, 2031, 2074, 2107, 2130, 2153, 2176, 2219, 2292]) (by decide +kernel) (off := 1052) (t := 1085) (by rw [c5_27]; decide +kernel) rfl ?_
      exact Ev.sub2 (gLaw_k27_ok hd q x h o ho) (subL_cons rfl (subL_cons rfl (subL_cons rfl (subL_cons rfl subL_nil))))
    rw [if_neg c5_27] at h
    by_cases c5_28 : (x4 &&& (127 : Int32)) = (28 : Int32)
    · rw [if_pos c5_28] at h
      refine Ev.tab D_335 (len := 311) (df := 2355) (lo := 0) (hi := 73) (offs := #[311, 374, 397, 410, 433, 466, 499, 532, 565, 598, 631, 654, 687, 710, 733, 756, 789, 812, 825, 848, 861, 904, 917, 940, 973, 1006, 1029, 1052, 1075, 1088, 1111, 1134, 1167, 1200, 1233, 1256, 1269, 1292, 1305, 1328, 1351, 1374, 1397, 1430, 1453, 1476, 1499, 1512, 1525, 1548, 1561, 1574, 1597, 1630, 1653, 1676, 1699, 1742, 1775, 1808, 1852, 1896, 1939, 1972, 1985, 1998, 2031, 2074, 2107, 2130, 2153, 2176, 2219, 2292]) (by decide +kernel) (off := 1075) (t := 1108) (by rw [c5_28]; decide +kernel) rfl ?_
      exact Ev.sub2 (gLaw_k28_ok hd q x h o ho) (subL_cons rfl (subL_cons rfl (subL_cons rfl (subL_cons rfl subL_nil))))
    rw [if_neg c5_28] at h
    by_cases c5_29 : (x4 &&& (127 : Int32)) = (29 : Int32)
    · rw [if_pos c5_29] at h
      refine Ev.tab D_335 (len := 311) (df := 2355) (lo := 0) (hi := 73) (offs := #[311, 374, 397, 410, 433, 466, 499, 532, 565, 598, 631, 654, 687, 710, 733, 756, 789, 812, 825, 848, 861, 904, 917, 940, 973, 1006, 1029, 1052, 1075, 1088, 1111, 1134, 1167, 1200, 1233, 1256, 1269, 1292, 1305, 1328, 1351, 1374, 1397, 1430, 1453, 1476, 1499, 1512, 1525, 1548, 1561, 1574, 1597, 1630, 1653, 1676, 1699, 1742, 1775, 1808, 1852, 1896, 1939, 1972, 1985, 1998, 2031, 2074, 2107, 2130, 2153, 2176, 2219, 2292]) (by decide +kernel) (off := 1088) (t := 1121) (by rw [c5_29]; decide +kernel) rfl ?_
      exact Ev.sub2 (gLaw_k29_ok hd q x h o ho) (subL_cons rfl (subL_cons rfl (subL_cons rfl (subL_cons rfl subL_nil))))
    rw [if_neg c5_29] at h
    by_cases c5_30 : (x4 &&& (127 : Int32)) = (30 : Int32)
    · rw [if_pos c5_30] at h
      refine Ev.tab D_335 (len := 311) (df := 2355) (lo := 0) (hi := 73) (offs := #[311, 374, 397, 410, 433, 466, 499, 532, 565, 598, 631, 654, 687, 710, 733, 756, 789, 812, 825, 848, 861, 904, 917, 940, 973, 1006, 1029, 1052, 1075, 1088, 1111, 1134, 1167, 1200, 1233, 1256, 1269, 1292, 1305, 1328, 1351, 1374, 1397, 1430, 1453, 1476, 1499, 1512, 1525, 1548, 1561, 1574, 1597, 1630, 1653, 1676, 1699, 1742, 1775, 1808, 1852, 1896, 1939, 1972, 1985, 1998, 2031, 2074, 2107, 2130, 2153, 2176, 2219, 2292]) (by decide +kernel) (off := 1111) (t := 1144) (by rw [c5_30]; decide +kernel) rfl ?_
      exact Ev.sub2 (gLaw_k30_ok hd q x h o ho) (subL_cons rfl (subL_cons rfl (subL_cons rfl (subL_cons rfl subL_nil))))
    rw [if_neg c5_30] at h
    by_cases c5_31 : (x4 &&& (127 : Int32)) = (31 : Int32)
    · rw [if_pos c5_31] at h
      refine Ev.tab D_335 (len := 311) (df := 2355) (lo := 0) (hi := 73) (offs := #[311, 374, 397, 410, 433, 466, 499, 532, 565, 598, 631, 654, 687, 710, 733, 756, 789, 812, 825, 848, 861, 904, 917, 940, 973, 1006, 1029, 1052, 1075, 1088, 1111, 1134, 1167, 1200, 1233, 1256, 1269, 1292, 1305, 1328, 1351, 1374, 1397, 1430, 1453, 1476, 1499, 1512, 1525, 1548, 1561, 1574, 1597, 1630, 1653, 1676, 1699, 1742, 1775, 1808, 1852, 1896, 1939, 1972, 1985, 1998, 2031, 2074, 2107, 2130, 2153, 2176, 2219, 2292]) (by decide +kernel) (off := 1134) (t := 1167) (by rw [c5_31]; decide +kernel) rfl ?_
      exact Ev.sub2 (gLaw_k31_ok hd q x h o ho) (subL_cons rfl (subL_cons rfl (subL_cons rfl (subL_cons rfl subL_nil))))
    rw [if_neg c5_31] at h
    by_cases c5_32 : (x4 &&& (127 : Int32)) = (32 : Int32)
    · rw [if_pos c5_32] at h
      refine Ev.tab D_335 (len := 311) (df := 2355) (lo := 0) (hi := 73) (offs := #[311, 374, 397, 410, 433, 466, 499, 532, 565, 598, 631, 654, 687, 710, 733, 756, 789, 812, 825, 848, 861, 904, 917, 940, 973, 1006, 1029, 1052, 1075, 1088, 1111, 1134, 1167, 1200, 1233, 1256, 1269, 1292, 1305, 1328, 1351, 1374, 1397, 1430, 1453, 1476, 1499, 1512, 1525, 1548, 1561, 1574, 1597, 1630, 1653, 1676, 1699, 1742, 1775, 1808, 1852, 1896, 1939, 1972, 1985, 1998, 2031, 2074, 2107, 2130, 2153, 2176, 2219, 2292]) (by decide +kernel) (off := 1167) (t := 1200) (by rw [c5_32]; decide +kernel) rfl ?_
      exact Ev.sub2 (gLaw_k32_ok hd q x h o ho) (subL_cons rfl (subL_cons rfl (subL_cons rfl (subL_cons rfl subL_nil))))
    rw [if_neg c5_32] at h
    by_cases c5_33 : (x4 &&& (127 : Int32)) = (33 : Int32)
    · rw [if_pos c5_33] at h
      refine Ev.tab D_335 (len := 311) (df := 2355) (lo := 0) (hi := 73) (offs := #[311, 374, 397, 410, 433, 466, 499, 532, 565, 598, 631, 654, 687, 710, 733, 756, 789, 812, 825, 848, 861, 904, 917, 940, 973, 1006, 1029, 1052, 1075, 1088, 1111, 1134, 1167, 1200, 1233, 1256, 1269, 1292, 1305, 1328, 1351, 1374, 1397, 1430, 1453, 1476, 1499, 1512, 1525, 1548, 1561, 1574, 1597, 1630, 1653, 1676, 1699, 1742, 1775, 1808, 1852, 1896, 1939, 1972, 1985, 1998, 2031, 2074, 2107, 2130, 2153, 2176, 2219, 2292]) (by decide +kernel) (off := 1200) (t := 1233) (by rw [c5_33]; decide +kernel) rfl ?_
      exact Ev.sub2 (gLaw_k33_ok hd q x h o ho) (subL_cons rfl (subL_cons rfl (subL_cons rfl (subL_cons rfl subL_nil))))
    rw [if_neg c5_33] at h
    by_cases c5_34 : (x4 &&& (127 : Int32)) = (34 : Int32)
    · rw [if_pos c5_34] at h
      refine Ev.tab D_335 (len := 311) (df := 2355) (lo := 0) (hi := 73) (offs := #[311, 374, 397, 410, 433, 466, 499, 532, 565, 598, 631, 654, 687, 710, 733, 756, 789, 812, 825, 848, 861, 904, 917, 940, 973, 1006, 1029, 1052, 1075, 1088, 1111, 1134, 1167, 1200, 1233, 1256, 1269, 1292, 1305, 1328, 1351, 1374, 1397, 1430, 1453, 1476, 1499, 1512, 1525, 1548, 1561, 1574, 1597, 1630, 1653, 1676, 1699, 1742, 1775, 1808, 1852, 1896, 1939, 1972, 1985, 1998, 2031, 2074, 2107, 2130, 2153, 2176, 2219, 2292]) (by decide +kernel) (off := 1233) (t := 1266) (by rw [c5_34]; decide +kernel) rfl ?_
      exact Ev.sub2 (gLaw_k34_ok hd q x h o ho) (subL_cons rfl (subL_cons rfl (subL_cons rfl (subL_cons rfl subL_nil))))
    rw [if_neg c5_34] at h
    by_cases c5_35 : (x4 &&& (127 : Int32)) = (35 : Int32)
    · rw [if_pos c5_35] at h
      refine Ev.tab D_335 (len := 311) (df := 2355) (lo := 0) (hi := 73) (offs := #[311, 374, 397, 410, 433, 466, 499, 532, 565, 598, 631, 654, 687, 710, 733, 756, 789, 812, 825, 848, 861, 904, 917, 940, 973, 1006, 1029, 1052, 1075, 1088, 1111, 1134, 1167, 1200, 1233, 1256, 1269, 1292, 1305, 1328, 1351, 1374, 1397, 1430, 1453, 1476, 1499, 1512, 1525, 1548, 1561, 1574, 1597, 1630, 1653, 1676, 1699, 1742, 1775, 1808, 1852, 1896, 1939, 1972, 1985, 1998, 2031, 2074, 2107, 2130, 2153, 2176, 2219, 2292]) (by decide +kernel) (off := 1256) (t := 1289) (by rw [c5_35]; decide +kernel) rfl ?_
      exact Ev.sub2 (gLaw_k35_ok hd q x h o ho) (subL_cons rfl (subL_cons rfl (subL_cons rfl (subL_cons rfl subL_nil))))
    rw [if_neg c5_35] at h
    by_cases c5_36 : (x4 &&& (127 : Int32)) = (36 : Int32)
    · rw [if_pos c5_36] at h
      refine Ev.tab D_335 (len := 311) (df := 2355) (lo := 0) (hi := 73) (offs := #[311, 374, 397, 410, 433, 466, 499, 532, 565, 598, 631, 654, 687, 710, 733, 756, 789, 812, 825, 848, 861, 904, 917, 940, 973, 1006, 1029, 1052, 1075, 1088, 1111, 1134, 1167, 1200, 1233, 1256, 1269, 1292, 1305, 1328, 1351, 1374, 1397, 1430, 1453, 1476, 1499, 1512, 1525, 1548, 1561, 1574, 1597, 1630, 1653, 1676, 1699, 1742, 1775, 1808, 1852, 1896, 1939, 1972, 1985, 1998, 2031, 2074, 2107, 2130, 2153, 2176, 2219, 2292]) (by decide +kernel) (off := 1269) (t := 1302) (by rw [c5_36]; decide +kernel) rfl ?_
      exact Ev.sub2 (gLaw_k36_ok hd q x h o ho) (subL_cons rfl (subL_cons rfl (subL_cons rfl (subL_cons rfl subL_nil))))
    rw [if_neg c5_36] at h
    by_cases c5_37 : (x4 &&& (127 : Int32)) = (37 : Int32)
    · rw [if_pos c5_37] at h
      refine Ev.tab D_335 (len := 311) (df := 2355) (lo := 0) (hi := 73) (offs := #[311, 374, 397, 410, 433, 466, 499, 532, 565, 598, 631, 654, 687, 710, 733, 756, 789, 812, 825, 848, 861, 904, 917, 940, 973, 1006, 1029, 1052, 1075, 1088, 1111, 1134, 1167, 1200, 1233, 1256, 1269, 1292, 1305, 1328, 1351, 1374, 1397, 1430, 1453, 1476, 1499, 1512, 1525, 1548, 1561, 1574, 1597, 1630, 1653, 1676, 1699, 1742, 1775, 1808, 1852, 1896, 1939, 1972, 1985, 1998, 2031, 2074, 2107, 2130, 2153, 2176, 2219, 2292]) (by decide +kernel) (off := 1292) (t := 1325) (by rw [c5_37]; decide +kernel) rfl ?_
      exact Ev.sub2 (gLaw_k37_ok hd q x h o ho) (subL_cons rfl (subL_cons rfl (subL_cons rfl (subL_cons rfl subL_nil))))
    rw [if_neg c5_37] at h
    by_cases c5_38 : (x4 &&& (127 : Int32)) = (38 : Int32)
    · rw [if_pos c5_38] at h
      refine Ev.tab D_335 (len := 311) (df := 2355) (lo := 0) (hi := 73) (offs := #[311, 374, 397, 410, 433, 466, 499, 532, 565, 598, 631, 654, 687, 710, 733, 756, 789, 812, 825, 848, 861, 904, 917, 940, 973, 1006, 1029, 1052, 1075, 1088, 1111, 1134, 1167, 1200, 1233, 1256, 1269, 1292, 1305, 1328, 1351, 1374, 1397, 1430, 1453, 1476, 1499, 1512, 1525, 1548, 1561, 1574, 1597, 1630, 1653, 1676, 1699, 1742, 1775, 1808, 1852, 1896, 1939, 1972, 1985, 1998, 2031, 2074, 2107, 2130, 2153, 2176, 2219, 2292]) (by decide +kernel) (off := 1305) (t := 1338) (by rw [c5_38]; decide +kernel) rfl ?_
      exact Ev.sub2 (gLaw_k38_ok hd q x h o ho) (subL_cons rfl (subL_cons rfl (subL_cons rfl (subL_cons rfl subL_nil))))
    rw [if_neg c5_38] at h
    by_cases c5_39 : (x4 &&& (127 : Int32)) = (39 : Int32)
    · rw [if_pos c5_39] at h
      refine Ev.tab D_335 (len := 311) (df := 2355) (lo := 0) (hi := 73) (offs := #[311, 374, 397, 410, 433, 466, 499, 532, 565, 598, 631, 654, 687, 710, 733, 756, 789, 812, 825, 848, 861, 904, 917, 940, 973, 1006, 1029, 1052, 1075, 1088, 1111, 1134, 1167, 1200, 1233, 1256, 1269, 1292, 1305, 1328, 1351, 1374, 1397, 1430, 1453, 1476, 1499, 1512, 1525, 1548, 1561, 1574, 1597, 1630, 1653, 1676, 1699, 1742, 1775, 1808, 1852, 1896, 1939, 1972, 1985, 1998, 2031, 2074, 2107, 2130, 2153, 2176, 2219, 2292]) (by decide +kernel) (off := 1328) (t := 1361) (by rw [c5_39]; decide +kernel) rfl ?_
      exact Ev.sub2 (gLaw_k39_ok hd q x h o ho) (subL_cons rfl (subL_cons rfl (subL_cons rfl (subL_cons rfl subL_nil))))
    rw [if_neg c5_39] at h
    by_cases c5_40 : (x4 &&& (127 : Int32)) = (40 : Int32)
    · rw [if_pos c5_40] at h
      refine Ev.tab D_335 (len := 311) (df := 2355) (lo := 0) (hi := 73) (offs := #[311, 374, 397, 410, 433, 466, 499, 532, 565, 598, 631, 654, 687, 710, 733, 756, 789, 812, 825, 848, 861, 904, 917, 940, 973, 1006, 1029, 1052, 1075, 1088, 1111, 1134, 1167, 1200, 1233, 1256, 1269, 1292, 1305, 1328, 1351, 1374, 1397, 1430, 1453, 1476, 1499, 1512, 1525, 1548, 1561, 1574, 1597, 1630, 1653, 1676, 1699, 1742, 1775, 1808, 1852, 1896, 1939, 1972, 1985, 1998, 2031, 2074, 2107, 2130, 2153, 2176, 2219, 2292]) (by decide +kernel) (off := 1351) (t := 1384) (by rw [c5_40]; decide +kernel) rfl ?_
      exact Ev.sub2 (gLaw_k40_ok hd q x h o ho) (subL_cons rfl (subL_cons rfl (subL_cons rfl (subL_cons rfl subL_nil))))
    rw [if_neg c5_40] at h
    by_cases c5_41 : (x4 &&& (127 : Int32)) = (41 : Int32)
    · rw [if_pos c5_41] at h
      refine Ev.tab D_335 (len := 311) (df := 2355) (lo := 0) (hi := 73) (offs := #[311, 374, 397, 410, 433, 466, 499, 532, 565, 598, 631, 654, 687, 710, 733, 756, 789, 812, 825, 848, 861, 904, 917, 940, 973, 1006, 1029, 1052, 1075, 1088, 1111, 1134, 1167, 1200, 1233, 1256, 1269, 1292, 1305, 1328, 1351, 1374, 1397, 1430, 1453, 1476, 1499, 1512, 1525, 1548, 1561, 1574, 1597, 1630, 1653, 1676, 1699, 1742, 1775, 1808, 1852, 1896, 1939, 1972, 1985, 1998, 2031, 2074, 2107, 2130, 2153, 2176, 2219, 2292]) (by decide +kernel) (off := 1374) (t := 1407) (by rw [c5_41]; decide +kernel) rfl ?_
      exact Ev.sub2 (gLaw_k41_ok hd q x h o ho) (subL_cons rfl (subL_cons rfl (subL_cons rfl (subL_cons rfl subL_nil))))
    rw [if_neg c5_41] at h
    by_cases c5_42 : (x4 &&& (127 : Int32)) = (42 : Int32)
    · rw [if_pos c5_42] at h
      refine Ev.tab D_335 (len := 311) (df := 2355) (lo := 0) (hi := 73) (offs := #[311, 374, 397, 410, 433, 466, 499, 532, 565, 598, 631, 654, 687, 710, 733, 756, 789, 812, 825, 848, 861, 904, 917, 940, 973, 1006, 1029, 1052, 1075, 1088, 1111, 1134, 1167, 1200, 1233, 1256, 1269, 1292, 1305, 1328, 1351, 1374, 1397, 1430, 1453, 1476, 1499, 1512, 1525, 1548, 1561, 1574, 1597, 1630, 1653, 1676, 1699, 1742, 1775, 1808, 1852, 1896, 1939, 1972, 1985, 1998, 2031, 2074, 2107, 2130, 2153, 2176, 2219, 2292]) (by decide +kernel) (off := 1397) (t := 1430) (by rw [c5_42]; decide +kernel) rfl ?_
      exact Ev.sub2 (gLaw_k42_ok hd q x h o ho) (subL_cons rfl (subL_cons rfl (subL_cons rfl (subL_cons rfl subL_nil))))
    rw [if_neg c5_42] at h
    by_cases c5_43 : (x4 &&& (127 : Int32)) = (43 : Int32)
    · rw [if_pos c5_43] at h
      refine Ev.tab D_335 (len := 311) (df := 2355) (lo := 0) (hi := 73) (offs := #[311, 374, 397, 410, 433, 466, 499, 532, 565, 598, 631, 654, 687, 710, 733, 756, 789, 812, 825, 848, 861, 904, 917, 940, 973, 1006, 1029, 1052, 1075, 1088, 1111, 1134, 1167, 1200, 1233, 1256, 1269, 1292, 1305, 1328, 1351, 1374, 1397, 1430, 1453, 1476, 1499, 1512, 1525, 1548, 1561, 1574, 1597, 1630, 1653, 1676, 1699, 1742, 1775, 1808, 1852, 1896, 1939, 1972, 1985, 1998, 2031, 2074, 2107, 2130, 2153, 2176, 2219, 2292]) (by decide +kernel) (off := 1430) (t := 1463) (by rw [c5_43]; decide +kernel) rfl ?_
      exact Ev.sub2 (gLaw_k43_ok hd q x h o ho) (subL_cons rfl (subL_cons rfl (subL_cons rfl (subL_cons rfl subL_nil))))
    rw [if_neg c5_43] at h
    by_cases c5_44 : (x4 &&& (127 : Int32)) = (44 : Int32)
    · rw [if_pos c5_44] at h
      refine Ev.tab D_335 (len := 311) (df := 2355) (lo := 0) (hi := 73) (offs := #[311, 374, 397, 410, 433, 466, 499, 532, 565, 598, 631, 654, 687, 710, 733, 756, 789, 812, 825, 848, 861, 904, 917, 940, 973, 1006, 1029, 1052, 1075, 1088, 1111, 1134, 1167, 1200, 1233, 1256, 1269, 1292, 1305, 1328, 1351, 1374, 1397, 1430, 1453, 1476, 1499, 1512, 1525, 1548, 1561, 1574, 1597, 1630, 1653, 1676, 1699, 1742, 1775, 1808, 1852, 1896, 1939, 1972, 1985, 1998, 2031, 2074, 2107, 2130, 2153, 2176, 2219, 2292]) (by decide +kernel) (off := 1453) (t := 1486) (by rw [c5_44]; decide +kernel) rfl ?_
      exact Ev.sub2 (gLaw_k44_ok hd q x h o ho) (subL_cons rfl (subL_cons rfl (subL_cons rfl (subL_cons rfl subL_nil))))
    rw [if_neg c5_44] at h
    by_cases c5_45 : (x4 &&& (127 : Int32)) = (45 : Int32)
    · rw [if_pos c5_45] at h
      refine Ev.tab D_335 (len := 311) (df := 2355) (lo := 0) (hi := 73) (offs := #[311, 374, 397, 410, 433, 466, 499, 532, 565, 598, 631, 654, 687, 710, 733, 756, 789, 812, 825, 848, 861, 904, 917, 940, 973, 1006, 1029, 1052, 1075, 1088, 1111, 1134, 1167, 1200, 1233, 1256, 1269, 1292, 1305, 1328, 1351, 1374, 1397, 1430, 1453, 1476, 1499, 1512, 1525, 1548, 1561, 1574, 1597, 1630, 1653, 1676, 1699, 1742, 1775, 1808, 1852, 1896, 1939, 1972, 1985, 1998, 2031, 2074, 2107, 2130, 2153, 2176, 2219, 2292]) (by decide +kernel) (off := 1476) (t := 1509) (by rw [c5_45]; decide +kernel) rfl ?_
      exact Ev.sub2 (gLaw_k45_ok hd q x h o ho) (subL_cons rfl (subL_cons rfl (subL_cons rfl (subL_cons rfl subL_nil))))
    rw [if_neg c5_45] at h
    by_cases c5_46 : (x4 &&& (127 : Int32)) = (46 : Int32)
    · rw [if_pos c5_46] at h
      refine Ev.tab D_335 (len := 311) (df := 2355) (lo := 0) (hi := 73) (offs := #[311, 374, 397, 410, 433, 466, 499, 532, 565, 598, 631, 654, 687, 710, 733, 756, 789, 812, 825, 848, 861, 904, 917, 940, 973, 1006, 1029, 1052, 1075, 1088, 1111, 1134, 1167, 1200, 1233, 1256, 1269, 1292, 1305, 1328, 1351, 1374, 1397, 1430, 1453, 1476, 1499, 1512, 1525, 1548, 1561, 1574, 1597, 1630, 1653, 1676, 1699, 1742, 1775, 1808, 1852, 1896, 1939, 1972, 1985, 1998, 2031, 2074, 2107, 2130, 2153, 2176, 2219, 2292]) (by decide +kernel) (off := 1499) (t := 1532) (by rw [c5_46]; decide +kernel) rfl ?_
      exact Ev.sub2 (gLaw_k46_ok hd q x h o ho) (subL_cons rfl (subL_cons rfl (subL_cons rfl (subL_cons rfl subL_nil))))
    rw [if_neg c5_46] at h
    by_cases c5_47 : (x4 &&& (127 : Int32)) = (47 : Int32)
    · rw [if_pos c5_47] at h
      refine Ev.tab D_335 (len := 311) (df := 2355) (lo := 0) (hi := 73) (offs := #[311, 374, 397, 410, 433, 466, 499, 532, 565, 598, 631, 654, 687, 710, 733, 756, 789, 812, 825, 848, 861, 904, 917, 940, 973, 1006, 1029, 1052, 1075, 1088, 1111, 1134, 1167, 1200, 1233, 1256, 1269, 1292, 1305, 1328, 1351, 1374, 1397, 1430, 1453, 1476, 1499, 1512, 1525, 1548, 1561, 1574, 1597, 1630, 1653, 1676, 1699, 1742, 1775, 1808, 1852, 1896, 1939, 1972, 1985, 1998, 2031, 2074, 2107, 2130, 2153, 2176, 2219, 2292]) (by decide +kernel) (off := 1512) (t := 1545) (by rw [c5_47]; decide +kernel) rfl ?_
      exact Ev.sub2 (gLaw_k47_ok hd q x h o ho) (subL_cons rfl (subL_cons rfl (subL_cons rfl (subL_cons rfl subL_nil))))
    rw [if_neg c5_47] at h
    by_cases c5_48 : (x4 &&& (127 : Int32)) = (48 : Int32)
    · rw [if_pos c5_48] at h
      refine Ev.tab D_335 (len := 311) (df := 2355) (lo := 0) (hi := 73) (offs := #[311, 374, 397, 410, 433, 466, 499, 532, 565, 598, 631, 654, 687, 710, 733, 756, 789, 812, 825, 848, 861, 904, 917, 940, 973, 1006, 1029, 1052, 1075, 1088, 1111, 1134, 1167, 1200, 1233, 1256, 1269, 1292, 1305, 1328, 1351, 1374, 1397, 1430, 1453, 1476, 1499, 1512, 1525, 1548, 1561, 1574, 1597, 1630, 1653, 1676, 1699, 1742, 1775, 1808, 1852, 1896, 1939, 1972, 1985, 1998, 2031, 2074, 2107, 2130, 2153, 2176, 2219, 2292]) (by decide +kernel) (off := 1525) (t := 1558) (by rw [c5_48]; decide +kernel) rfl ?_
      exact Ev.sub2 (gLaw_k48_ok hd q x h o ho) (subL_cons rfl (subL_cons rfl (subL_cons rfl (subL_cons rfl subL_nil))))
    rw [if_neg c5_48] at h
    by_cases c5_49 : (x4 &&& (127 : Int32)) = (49 : Int32)
    · rw [if_pos c5_49] at h
      refine Ev.tab D_335 (len := 311) (df := 2355) (lo := 0) (hi := 73) (offs := #[311, 374, 397, 410, 433, 466, 499, 532, 565, 598, 631, 654, 687, 710, 733, 756, 789, 812, 825, 848, 861, 904, 917, 940, 973, 1006, 1029, 1052, 1075, 1088, 1111, 1134, 1167, 1200, 1233, 1256, 1269, 1292, 1305, 1328, 1351, 1374, 1397, 1430, 1453, 1476, 1499, 1512, 1525, 1548, 1561, 1574, 1597, 1630, 1653, 1676, 1699, 1742, 1775, 1808, 1852, 1896, 1939, 1972, 1985, 1998, 2031, 2074, 2107, 2130, 2153, 2176, 2219, 2292]) (by decide +kernel) (off := 1548) (t := 1581) (by rw [c5_49]; decide +kernel) rfl ?_
      exact Ev.sub2 (gLaw_k49_ok hd q x h o ho) (subL_cons rfl (subL_cons rfl (subL_cons rfl (subL_cons rfl subL_nil))))
    rw [if_neg c5_49] at h
    by_cases c5_50 : (x4 &&& (127 : Int32)) = (50 : Int32)
    · rw [if_pos c5_50] at h
      refine Ev.tab D_335 (len := 311) (df := 2355) (lo := 0) (hi := 73) (offs := #[311, 374, 397, 410, 433, 466, 499, 532, 565, 598, 631, 654, 687, 710, 733, 756, 789, 812, 825, 848, 861, 904, 917, 940, 973, 1006, 1029, 1052, 1075, 1088, 1111, 1134, 1167, 1200, 1233, 1256, 1269, 1292, 1305, 1328, 1351, 1374, 1397, 1430, 1453, 1476, 1499, 1512, 1525, 1548, 1561, 1574, 1597, 1630, 1653, 1676, 1699, 1742, 1775, 1808, 1852, 1896, 1939, 1972, 1985, 1998, 2031, 2074, 2107, 2130, 2153, 2176, 2219, 2292]) (by decide +kernel) (off := 1561) (t := 1594) (by rw [c5_50]; decide +kernel) rfl ?_
      exact Ev.sub2 (gLaw_k50_ok hd q x h o ho) (subL_cons rfl (subL_cons rfl (subL_cons rfl (subL_cons rfl subL_nil))))
    rw [if_neg c5_50] at h
    by_cases c5_51 : (x4 &&& (127 : Int32)) = (51 : Int32)
    · rw [if_pos c5_51] at h
      refine Ev.tab D_335 (len := 311) (df := 2355) (lo := 0) (hi := 73) (offs := #[311, 374, 397, 410, 433, 466, 499, 532, 565, 598, 631, 654, 687, 710, 733, 756, 789, 812, 825, 848, 861, 904, 917, 940, 973, 1006, 1029, 1052, 1075, 1088, 1111, 1134, 1167, 1200, 1233, 1256, 1269, 1292, 1305, 1328, 1351, 1374, 1397, 1430, 1453, 1476, 1499, 1512, 1525, 1548, 1561, 1574, 1597, 1630, 1653, 1676, 1699, 1742, 1775, 1808, 1852, 1896, 1939, 1972, 1985, 1998, 2031, 2074, 2107, 2130, 2153, 2176, 2219, 2292]) (by decide +kernel) (off := 1574) (t := 1607) (by rw [c5_51]; decide +kernel) rfl ?_
      exact Ev.sub2 (gLaw_k51_ok hd q x h o ho) (subL_cons rfl (subL_cons rfl (subL_cons rfl (subL_cons rfl subL_nil))))
    rw [if_neg c5_51] at h
    by_cases c5_52 : (x4 &&& (127 : Int32)) = (52 : Int32)
    · rw [if_pos c5_52] at h
      refine Ev.tab D_335 (len := 311) (df := 2355) (lo := 0) (hi := 73) (offs := #[311, 374, 397, 410, 433, 466, 499, 532, 565, 598, 631, 654, 687, 710, 733, 756, 789, 812, 825, 848, 861, 904, 917, 940, 973, 1006, 1029, 1052, 1075, 1088, 1111, 1134, 1167, 1200, 1233, 1256, 1269, 1292, 1305, 1328, 1351, 1374, 1397, 1430, 1453, 1476, 1499, 1512, 1525, 1548, 1561, 1574, 1597, 1630, 1653, 1676, 1699, 1742, 1775, 1808, 1852, 1896, 1939, 1972, 1985, 1998, 2031, 2074, 2107, 2130, 2153, 2176, 2219, 2292]) (by decide +kernel) (off := 1597) (t := 1630) (by rw [c5_52]; decide +kernel) rfl ?_
      exact Ev.sub2 (gLaw_k52_ok hd q x h o ho) (subL_cons rfl (subL_cons rfl (subL_cons rfl (subL_cons rfl subL_nil))))
    rw [if_neg c5_52] at h
    by_cases c5_53 : (x4 &&& (127 : Int32)) = (53 : Int32)
    · rw [if_pos c5_53] at h
      refine Ev.tab D_335 (len := 311) (df := 2355) (lo := 0) (hi := 73) (offs := #[311, 374, 397, 410, 433, 466, 499, 532, 565, 598, 631, 654, 687, 710, 733, 756, 789, 812, 825, 848, 861, 904, 917, 940, 973, 1006, 1029, 1052, 1075, 1088, 1111, 1134, 1167, 1200, 1233, 1256, 1269, 1292, 1305, 1328, 1351, 1374, 1397, 1430, 1453, 1476, 1499, 1512, 1525, 1548, 1561, 1574, 1597, 1630, 1653, 1676, 1699, 1742, 1775, 1808, 1852, 1896, 1939, 1972, 1985, 1998, 2031, 2074, 2107, 2130, 2153, 2176, 2219, 2292]) (by decide +kernel) (off := 1630) (t := 1663) (by rw [c5_53]; decide +kernel) rfl ?_
      exact Ev.sub2 (gLaw_k53_ok hd q x h o ho) (subL_cons rfl (subL_cons rfl (subL_cons rfl (subL_cons rfl subL_nil))))
    rw [if_neg c5_53] at h
    by_cases c5_54 : (x4 &&& (127 : Int32)) = (54 : Int32)
    · rw [if_pos c5_54] at h
      refine Ev.tab D_335 (len := 311) (df := 2355) (lo := 0) (hi := 73) (offs := #[311, 374, 397, 410, 433, 466, 499, 532, 565, 598, 631, 654, 687, 710, 733, 756, 789, 812, 825, 848, 861, 904, 917, 940, 973, 1006, 1029, 1052, 1075, 1088, 1111, 1134, 1167, 1200, 1233, 1256, 1269, 1292, 1305, 1328, 1351, 1374, 1397, 1430, 1453, 1476, 1499, 1512, 1525, 1548, 1561, 1574, 1597, 1630, 1653, 1676, 1699, 1742, 1775, 1808, 1852, 1896, 1939, 1972, 1985, 1998, 2031, 2074, 2107, 2130, 2153, 2176, 2219, 2292]) (by decide +kernel) (off := 1653) (t := 1686) (by rw [c5_54]; decide +kernel) rfl ?_
      exact Ev.sub2 (gLaw_k54_ok hd q x h o ho) (subL_cons rfl (subL_cons rfl (subL_cons rfl (subL_cons rfl subL_nil))))
    rw [if_neg c5_54] at h
    by_cases c5_55 : (x4 &&& (127 : Int32)) = (55 : Int32)
    · rw [if_pos c5_55] at h
      refine Ev.tab D_335 (len := 311) (df := 2355) (lo := 0) (hi := 73) (offs := #[311, 374, 397, 410, 433, 466, 499, 532, 565, 598, 631, 654, 687, 710, 733, 756, 789, 812, 825, 848, 861, 904, 917, 940, 973, 1006, 1029, 1052, 1075, 1088, 1111, 1134, 1167, 1200, 1233, 1256, 1269, 1292, 1305, 1328, 1351, 1374, 1397, 1430, 1453, 1476, 1499, 1512, 1525, 1548, 1561, 1574, 1597, 1630, 1653, 1676, 1699, 1742, 1775, 1808, 1852, 1896, 1939, 1972, 1985, 1998, 2031, 2074, 2107, 2130, 2153, 2176, 2219, 2292]) (by decide +kernel) (off := 1676) (t := 1709) (by rw [c5_55]; decide +kernel) rfl ?_
      exact Ev.sub2 (gLaw_k55_ok hd q x h o ho) (subL_cons rfl (subL_cons rfl (subL_cons rfl (subL_cons rfl subL_nil))))
    rw [if_neg c5_55] at h
    by_cases c5_56 : (x4 &&& (127 : Int32)) = (56 : Int32)
    · rw [if_pos c5_56] at h
      refine Ev.tab D_335 (len := 311) (df := 2355) (lo := 0) (hi := 73) (offs := #[311, 374, 397, 410, 433, 466, 499, 532, 565, 598, 631, 654, 687, 710, 733, 756, 789, 812, 825, 848, 861, 904, 917, 940, 973, 1006, 1029, 1052, 1075, 1088, 1111, 1134, 1167, 1200, 1233, 1256, 1269, 1292, 1305, 1328, 1351, 1374, 1397, 1430, 1453, 1476, 1499, 1512, 1525, 1548, 1561, 1574, 1597, 1630, 1653, 1676, 1699, 1742, 1775, 1808, 1852, 1896, 1939, 1972, 1985, 1998, 2031, 2074, 2107, 2130, 2153, 2176, 2219, 2292]) (by decide +kernel) (off := 1699) (t := 1732) (by rw [c5_56]; decide +kernel) rfl ?_
      exact Ev.sub2 (gLaw_k56_ok hd q x h o ho) (subL_cons rfl (subL_cons rfl (subL_cons rfl (subL_cons rfl subL_nil))))
    rw [if_neg c5_56] at h
    by_cases c5_57 : (x4 &&& (127 : Int32)) = (57 : Int32)
    · rw [if_pos c5_57] at h
      refine Ev.tab D_335 (len := 311) (df := 2355) (lo := 0) (hi := 73) (offs := #[311, 374, 397, 410, 433, 466, 499, 532, 565, 598, 631, 654, 687, 710, 733, 756, 789, 812, 825, 848, 861, 904, 917, 940, 973, 1006, 1029, 1052, 1075, 1088, 1111, 1134, 1167, 1200, 1233, 1256, 1269, 1292, 1305, 1328, 1351, 1374, 1397, 1430, 1453, 1476, 1499, 1512, 1525, 1548, 1561, 1574, 1597, 1630, 1653, 1676, 1699, 1742, 1775, 1808, 1852, 1896, 1939, 1972, 1985, 1998, 2031, 2074, 2107, 2130, 2153, 2176, 2219, 2292]) (by decide +kernel) (off := 1742) (t := 1775) (by rw [c5_57]; decide +kernel) rfl ?_
      exact Ev.sub2 (gLaw_k57_ok hd q x h o ho) (subL_cons rfl (subL_cons rfl (subL_cons rfl (subL_cons rfl subL_nil))))
    rw [if_neg c5_57] at h
    by_cases c5_58 : (x4 &&& (127 : Int32)) = (58 : Int32)
    · rw [if_pos c5_58] at h
      refine Ev.tab D_335 (len := 311) (df := 2355) (lo := 0) (hi := 73) (offs := #[311, 374, 397, 410, 433, 466, 499, 532, 565, 598, 631, 654, 687, 710, 733, 756, 789, 812, 825, 848, 861, 904, 917, 940, 973, 1006, 1029, 1052, 1075, 1088, 1111, 1134, 1167, 1200, 1233, 1256, 1269, 1292, 1305, 1328, 1351, 1374, 1397, 1430, 1453, 1476, 1499, 1512, 1525, 1548, 1561, 1574, 1597, 1630, 1653, 1676, 1699, 1742, 1775, 1808, 1852, 1896, 1939, 1972, 1985, 1998, 2031, 2074, 2107, 2130, 2153, 2176, 2219, 2292]) (by decide +kernel) (off := 1775) (t := 1808) (by rw [c5_58]; decide +kernel) rfl ?_
      exact Ev.sub2 (gLaw_k58_ok hd q x h o ho) (subL_cons rfl (subL_cons rfl (subL_cons rfl (subL_cons rfl subL_nil))))
    rw [if_neg c5_58] at h
    by_cases c5_59 : (x4 &&& (127 : Int32)) = (59 : Int32)
    · rw [if_pos c5_59] at h
      refine Ev.tab D_335 (len := 311) (df := 2355) (lo := 0) (hi := 73) (offs := #[311, 374, 397, 410, 433, 466, 499, 532, 565, 598, 631, 654, 687, 710, 733, 756, 789, 812, 825, 848, 861, 904, 917, 940, 973, 1006, 1029, 1052, 1075, 1088, 1111, 1134, 1167, 1200, 1233, 1256, 1269, 1292, 1305, 1328, 1351, 1374, 1397, 1430, 1453, 1476, 1499, 1512, 1525, 1548, 1561, 1574, 1597, 1630, 1653, 1676, 1699, 1742, 1775, 1808, 1852, 1896, 1939, 1972, 1985, 1998, 2031, 2074, 2107, 2130, 2153, 2176, 2219, 2292]) (by decide +kernel) (off := 1808) (t := 1841) (by rw [c5_59]; decide +kernel) rfl ?_
      exact Ev.sub2 (gLaw_k59_ok hd q x h o ho) (subL_cons rfl (subL_cons rfl (subL_cons rfl (subL_cons rfl subL_nil))))
    rw [if_neg c5_59] at h
    by_cases c5_60 : (x4 &&& (127 : Int32)) = (60 : Int32)
    · rw [if_pos c5_60] at h
      refine Ev.tab D_335 (len := 311) (df := 2355) (lo := 0) (hi := 73) (offs := #[311, 374, 397, 410, 433, 466, 499, 532, 565, 598, 631, 654, 687, 710, 733, 756, 789, 812, 825, 848, 861, 904, 917, 940, 973, 1006, 1029, 1052, 1075, 1088, 1111, 1134, 1167, 1200, 1233, 1256, 1269, 1292, 1305, 1328, 1351, 1374, 1397, 1430, 1453, 1476, 1499, 1512, 1525, 1548, 1561, 1574, 1597, 1630, 1653, 1676, 1699, 1742, 1775, 1808, 1852, 1896, 1939, 1972, 1985, 1998, 2031, 2074, 2107, 2130, 2153, 2176, 2219, 2292]) (by decide +kernel) (off := 1852) (t := 1885) (by rw [c5_60]; decide +kernel) rfl ?_
      exact Ev.sub2 (gLaw_k60_ok hd q x h o ho) (subL_cons rfl (subL_cons rfl (subL_cons rfl (subL_cons rfl subL_nil))))
    rw [if_neg c5_60] at h
    by_cases c5_61 : (x4 &&& (127 : Int32)) = (61 : Int32)
    · rw [if_pos c5_61] at h
      refine Ev.tab D_335 (len := 311) (df := 2355) (lo := 0) (hi := 73) (offs := #[311, 374, 397, 410, 433, 466, 499, 532, 565, 598, 631, 654, 687, 710, 733, 756, 789, 812, 825, 848, 861, 904, 917, 940, 973, 1006, 1029, 1052, 1075, 1088, 1111, 1134, 1167, 1200, 1233, 1256, 1269, 1292, 1305, 1328, 1351, 1374, 1397, 1430, 1453, 1476, 1499, 1512, 1525, 1548, 1561, 1574, 1597, 1630, 1653, 1676, 1699, 1742, 1775, 1808, 1852, 1896, 1939, 1972, 1985, 1998, 2031, 2074, 2107, 2130, 2153, 2176, 2219, 2292]) (by decide +kernel) (off := 1896) (t := 1929) (by rw [c5_61]; decide +kernel) rfl ?_
      exact Ev.sub2 (gLaw_k61_ok hd q x h o ho) (subL_cons rfl (subL_cons rfl (subL_cons rfl (subL_cons rfl subL_nil))))
    rw [if_neg c5_61] at h
    by_cases c5_62 : (x4 &&& (127 : Int32)) = (62 : Int32)
    · rw [if_pos c5_62] at h
      refine Ev.tab D_335 (len := 311) (df := 2355) (lo := 0) (hi := 73) (offs := #[311, 374, 397, 410, 433, 466, 499, 532, 565, 598, 631, 654, 687, 710, 733, 756, 789, 812, 825, 848, 861, 904, 917, 940, 973, 1006, 1029, 1052, 1075, 1088, 1111, 1134, 1167, 1200, 1233, 1256, 1269, 1292, 1305, 1328, 1351, 1374, 1397, 1430, 1453, 1476, 1499, 1512, 1525, 1548, 1561, 1574, 1597, 1630, 1653, 1676, 1699, 1742, 1775, 1808, 1852, 1896, 1939, 1972, 1985, 1998, 2031, 2074, 2107, 2130, 2153, 2176, 2219, 2292]) (by decide +kernel) (off := 1939) (t := 1972) (by rw [c5_62]; decide +kernel) rfl ?_
      exact Ev.sub2 (gLaw_k62_ok hd q x h o ho) (subL_cons rfl (subL_cons rfl (subL_cons rfl (subL_cons rfl subL_nil))))
    rw [if_neg c5_62] at h
    by_cases c5_63 : (x4 &&& (127 : Int32)) = (63 : Int32)
    · rw [if_pos c5_63] at h
      refine Ev.tab D_335 (len := 311) (df := 2355) (lo := 0) (hi := 73) (offs := #[311, 374, 397, 410, 433, 466, 499, 532, 565, 598, 631, 654, 687, 710, 733, 756, 789, 812, 825, 848, 861, 904, 917, 940, 973, 1006, 1029, 1052, 1075, 1088, 1111, 1134, 1167, 1200, 1233, 1256, 1269, 1292, 1305, 1328, 1351, 1374, 1397, 1430, 1453, 1476, 1499, 1512, 1525, 1548, 1561, 1574, 1597, 1630, 1653, 1676, 1699, 1742, 1775, 1808, 1852, 1896, 1939, 1972, 1985, 1998, 2031, 2074, 2107, 2130, 2153, 2176, 2219, 2292]) (by decide +kernel) (off := 1972) (t := 2005) (by rw [c5_63]; decide +kernel) rfl ?_
      exact Ev.sub2 (gLaw_k63_ok hd q x h o ho) (subL_cons rfl (subL_cons rfl (subL_cons rfl (subL_cons rfl subL_nil))))
    rw [if_neg c5_63] at h
    by_cases c5_64 : (x4 &&& (127 : Int32)) = (64 : Int32)
    · rw [if_pos c5_64] at h
      refine Ev.tab D_335 (len := 311) (df := 2355) (lo := 0) (hi := 73) (offs := #[311, 374, 397, 410, 433, 466, 499, 532, 565, 598, 631, 654, 687, 710, 733, 756, 789, 812, 825, 848, 861, 904, 917, 940, 973, 1006, 1029, 1052, 1075, 1088, 1111, 1134, 1167, 1200, 1233, 1256, 1269, 1292, 1305, 1328, 1351, 1374, 1397, 1430, 1453, 1476, 1499, 1512, 1525, 1548, 1561, 1574, 1597, 1630, 1653, 1676, 1699, 1742, 1775, 1808, 1852, 1896, 1939, 1972, 1985, 1998, 2031, 2074, 2107, 2130, 2153, 2176, 2219, 2292]) (by decide +kernel) (off := 1985) (t := 2018) (by rw [c5_64]; decide +kernel) rfl ?_
      exact Ev.sub2 (gLaw_k64_ok hd q x h o ho) (subL_cons rfl (subL_cons rfl (subL_cons rfl (subL_cons rfl subL_nil))))
    rw [if_neg c5_64] at h
    by_cases c5_65 : (x4 &&& (127 : Int32)) = (65 : Int32)
    · rw [if_pos c5_65] at h
      refine Ev.tab D_335 (len := 311) (df := 2355) (lo := 0) (hi := 73) (offs := #[311, 374, 397, 410, 433, 466, 499, 532, 565, 598, 631, 654, 687, 710, 733, 756, 789, 812, 825, 848, 861, 904, 917, 940, 973, 1006, 1029, 1052, 1075, 1088, 1111, 1134, 1167, 1200, 1233, 1256, 1269, 1292, 1305, 1328, 1351, 1374, 1397, 1430, 1453, 1476, 1499, 1512, 1525, 1548, 1561, 1574, 1597, 1630, 1653, 1676, 1699, 1742, 1775, 1808, 1852, 1896, 1939, 1972, 1985, 1998, 2031, 2074, 2107, 2130, 2153, 2176, 2219, 2292]) (by decide +kernel) (off := 1998) (t := 2031) (by rw [c5_65]; decide +kernel) rfl ?_
      exact Ev.sub2 (gLaw_k65_ok hd q x h o ho) (subL_cons rfl (subL_cons rfl (subL_cons rfl (subL_cons rfl subL_nil))))
    rw [if_neg c5_65] at h
    by_cases c5_66 : (x4 &&& (127 : Int32)) = (66 : Int32)
    · rw [if_pos c5_66] at h
      refine Ev.tab D_335 (len := 311) (df := 2355) (lo := 0) (hi := 73) (offs := #[311, 374, 397, 410, 433, 466, 499, 532, 565, 598, 631, 654, 687, 710, 733, 756, 789, 812, 825, 848, 861, 904, 917, 940, 973, 1006, 1029, 1052, 1075, 1088, 1111, 1134, 1167, 1200, 1233, 1256, 1269, 1292, 1305, 1328, 1351, 1374, 1397, 1430, 1453, 1476, 1499, 1512, 1525, 1548, 1561, 1574, 1597, 1630, 1653, 1676, 1699, 1742, 1775, 1808, 1852, 1896, 1939, 1972, 1985, 1998, 2031, 2074, 2107, 2130, 2153, 2176, 2219, 2292]) (by decide +kernel) (off := 2031) (t := 2064) (by rw [c5_66]; decide +kernel) rfl ?_
      exact Ev.sub2 (gLaw_k66_ok hd q x h o ho) (subL_cons rfl (subL_cons rfl (subL_cons rfl (subL_cons rfl subL_nil))))
    rw [if_neg c5_66] at h
    by_cases c5_67 : (x4 &&& (127 : Int32)) = (67 : Int32)
    · rw [if_pos c5_67] at h
      refine Ev.tab D_335 (len := 311) (df := 2355) (lo := 0) (hi := 73) (offs := #[311, 374, 397, 410, 433, 466, 499, 532, 565, 598, 631, 654, 687, 710, 733, 756, 789, 812, 825, 848, 861, 904, 917, 940, 973, 1006, 1029, 1052, 1075, 1088, 1111, 1134, 1167, 1200, 1233, 1256, 1269, 1292, 1305, 1328, 1351, 1374, 1397, 1430, 1453, 1476, 1499, 1512, 1525, 1548, 1561, 1574, 1597, 1630, 1653, 1676, 1699, 1742, 1775, 1808, 1852, 1896, 1939, 1972, 1985, 1998, 2031, 2074, 2107, 2130, 2153, 2176, 2219, 2292]) (by decide +kernel) (off := 2074) (t := 2107) (by rw [c5_67]; decide +kernel) rfl ?_
      exact Ev.sub2 (gLaw_k67_ok hd q x h o ho) (subL_cons rfl (subL_cons rfl (subL_cons rfl (subL_cons rfl subL_nil))))
    rw [if_neg c5_67] at h
    by_cases c5_68 : (x4 &&& (127 : Int32)) = (68 : Int32)
    · rw [if_pos c5_68] at h
      refine Ev.tab D_335 (len := 311) (df := 2355) (lo := 0) (hi := 73) (offs := #[311, 374, 397, 410, 433, 466, 499, 532, 565, 598, 631, 654, 687, 710, 733, 756, 789, 812, 825, 848, 861, 904, 917, 940, 973, 1006, 1029, 1052, 1075, 1088, 1111, 1134, 1167, 1200, 1233, 1256, 1269, 1292, 1305, 1328, 1351, 1374, 1397, 1430, 1453, 1476, 1499, 1512, 1525, 1548, 1561, 1574, 1597, 1630, 1653, 1676, 1699, 1742, 1775, 1808, 1852, 1896, 1939, 1972, 1985, 1998, 2031, 2074, 2107, 2130, 2153, 2176, 2219, 2292]) (by decide +kernel) (off := 2107) (t := 2140) (by rw [c5_68]; decide +kernel) rfl ?_
      exact Ev.sub2 (gLaw_k68_ok hd q x h o ho) (subL_cons rfl (subL_cons rfl (subL_cons rfl (subL_cons rfl subL_nil))))
    rw [if_neg c5_68] at h
    by_cases c5_69 : (x4 &&& (127 : Int32)) = (69 : Int32)
    · rw [if_pos c5_69] at h
      refine Ev.tab D_335 (len := 311) (df := 2355) (lo := 0) (hi := 73) (offs := #[311, 374, 397, 410, 433, 466, 499, 532, 565, 598, 631, 654, 687, 710, 733, 756, 789, 812, 825, 848, 861, 904, 917, 940, 973, 1006, 1029, 1052, 1075, 1088, 1111, 1134, 1167, 1200, 1233, 1256, 1269, 1292, 1305, 1328, 1351, 1374, 1397, 1430, 1453, 1476, 1499, 1512, 1525, 1548, 1561, 1574, 1597, 1630, 1653, 1676, 1699, 1742, 1775, 1808, 1852, 1896, 1939, 1972, 1985, 1998, 2031, 2074, 2107, 2130, 2153, 2176, 2219, 2292]) (by decide +kernel) (off := 2130) (t := 2163) (by rw [c5_69]; decide +kernel) rfl ?_
      exact Ev.sub2 (gLaw_k69_ok hd q x h o ho) (subL_cons rfl (subL_cons rfl (subL_cons rfl (subL_cons rfl subL_nil))))
    rw [if_neg c5_69] at h
    by_cases c5_70 : (x4 &&& (127 : Int32)) = (70 : Int32)
    · rw [if_pos c5_70] at h
      refine Ev.tab D_335 (len := 311) (df := 2355) (lo := 0) (hi := 73) (offs := #[311, 374, 397, 410, 433, 466, 499, 532, 565, 598, 631, 654, 687, 710, 733, 756, 789, 812, 825, 848, 861, 904, 917, 940, 973, 1006, 1029, 1052, 1075, 1088, 1111, 1134, 1167, 1200, 1233, 1256, 1269, 1292, 1305, 1328, 1351, 1374, 1397, 1430, 1453, 1476, 1499, 1512, 1525, 1548, 1561, 1574, 1597, 1630, 1653, 1676, 1699, 1742, 1775, 1808, 1852, 1896, 1939, 1972, 1985, 1998, 2031, 2074, 2107, 2130, 2153, 2176, 2219, 2292]) (by decide +kernel) (off := 2153) (t := 2186) (by rw [c5_70]; decide +kernel) rfl ?_
      exact Ev.sub2 (gLaw_k70_ok hd q x h o ho) (subL_cons rfl (subL_cons rfl (subL_cons rfl (subL_cons rfl subL_nil))))
    rw [if_neg c5_70] at h
    by_cases c5_71 : (x4 &&& (127 : Int32)) = (71 : Int32)
    · rw [if_pos c5_71] at h
      refine Ev.tab D_335 (len := 311) (df := 2355) (lo := 0) (hi := 73) (offs := #[311, 374, 397, 410, 433, 466, 499, 532, 565, 598, 631, 654, 687, 710, 733, 756, 789, 812, 825, 848, 861, 904, 917, 940, 973, 1006, 1029, 1052, 1075, 1088, 1111, 1134, 1167, 1200, 1233, 1256, 1269, 1292, 1305, 1328, 1351, 1374, 1397, 1430, 1453, 1476, 1499, 1512, 1525, 1548, 1561, 1574, 1597, 1630, 1653, 1676, 1699, 1742, 1775, 1808, 1852, 1896, 1939, 1972, 1985, 1998, 2031, 2074, 2107, 2130, 2153, 2176, 2219, 2292]) (by decide +kernel) (off := 2176) (t := 2209) (by rw [c5_71]; decide +kernel) rfl ?_
      exact Ev.sub2 (gLaw_k71_ok hd q x h o ho) (subL_cons rfl (subL_cons rfl (subL_cons rfl (subL_cons rfl subL_nil))))
    rw [if_neg c5_71] at h
    by_cases c5_72 : (x4 &&& (127 : Int32)) = (72 : Int32)
    · rw [if_pos c5_72] at h
      refine Ev.tab D_335 (len := 311) (df := 2355) (lo := 0) (hi := 73) (offs := #[311, 374, 397, 410, 433, 466, 499, 532, 565, 598, 631, 654, 687, 710, 733, 756, 789, 812, 825, 848, 861, 904, 917, 940, 973, 1006, 1029, 1052, 1075, 1088, 1111, 1134, 1167, 1200, 1233, 1256, 1269, 1292, 1305, 1328, 1351, 1374, 1397, 1430, 1453, 1476, 1499, 1512, 1525, 1548, 1561, 1574, 1597, 1630, 1653, 1676, 1699, 1742, 1775, 1808, 1852, 1896, 1939, 1972, 1985, 1998, 2031, 2074, 2107, 2130, 2153, 2176, 2219, 2292]) (by decide +kernel) (off := 2219) (t := 2252) (by rw [c5_72]; decide +kernel) rfl ?_
      exact Ev.sub2 (gLaw_k72_ok hd q x h o ho) (subL_cons rfl (subL_cons rfl (subL_cons rfl (subL_cons rfl subL_nil))))
    rw [if_neg c5_72] at h
    by_cases c5_73 : (x4 &&& (127 : Int32)) = (73 : Int32)
    · rw [if_pos c5_73] at h
      refine Ev.tab D_335 (len := 311) (df := 2355) (lo := 0) (hi := 73) (offs := #[311, 374, 397, 410, 433, 466, 499, 532, 565, 598, 631, 654, 687, 710, 733, 756, 789, 812, 825, 848, 861, 904, 917, 940, 973, 1006, 1029, 1052, 1075, 1088, 1111, 1134, 1167, 1200, 1233, 1256, 1269, 1292, 1305, 1328, 1351, 1374, 1397, 1430, 1453, 1476, 1499, 1512, 1525, 1548, 1561, 1574, 1597, 1630, 1653, 1676, 1699, 1742, 1775, 1808, 1852, 1896, 1939, 1972, 1985, 1998, 2031, 2074, 2107, 2130, 2153, 2176, 2219, 2292]) (by decide +kernel) (off := 2292) (t := 2325) (by rw [c5_73]; decide +kernel) rfl ?_
      exact Ev.sub2 (gLaw_k73_ok hd q x h o ho) (subL_cons rfl (subL_cons rfl (subL_cons rfl (subL_cons rfl subL_nil))))
    rw [if_neg c5_73] at h
    refine Ev.tab D_335 (len := 311) (df := 2355) (lo := 0) (hi := 73) (offs := #[311, 374, 397, 410, 433, 466, 499, 532, 565, 598, 631, 654, 687, 710, 733, 756, 789, 812, 825, 848, 861, 904, 917, 940, 973, 1006, 1029, 1052, 1075, 1088, 1111, 1134, 1167, 1200, 1233, 1256, 1269, 1292, 1305, 1328, 1351, 1374, 1397, 1430, 1453, 1476, 1499, 1512, 1525, 1548, 1561, 1574, 1597, 1630, 1653, 1676, 1699, 1742, 1775, 1808, 1852, 1896, 1939, 1972, 1985, 1998, 2031, 2074, 2107, 2130, 2153, 2176, 2219, 2292]) (by decide +kernel) (off := 2355) (t := 2388) (tab_df 74 (fun z hz => match z, hz with | 0, _ => c5_0 | 1, _ => c5_1 | 2, _ => c5_2 | 3, _ => c5_3 | 4, _ => c5_4 | 5, _ => c5_5 | 6, _ => c5_6 | 7, _ => c5_7 | 8, _ => c5_8 | 9, _ => c5_9 | 10, _ => c5_10 | 11, _ => c5_11 | 12, _ => c5_12 | 13, _ => c5_13 | 14, _ => c5_14 | 15, _ => c5_15 | 16, _ => c5_16 | 17, _ => c5_17 | 18, _ => c5_18 | 19, _ => c5_19 | 20, _ => c5_20 | 21, _ => c5_21 | 22, _ => c5_22 | 23, _ => c5_23 | 24, _ => c5_24 | 25, _ => c5_25 | 26, _ => c5_26 | 27, _ => c5_27 | 28, _ => c5_28 | 29, _ => c5_29 | 30, _ => c5_30 | 31, _ => c5_31 | 32, _ => c5_32 | 33, _ => c5_33 | 34, _ => c5_34 | 35, _ => c5_35 | 36, _ => c5_36 | 37, _ => c5_37 | 38, _ => c5_38 | 39, _ => c5_39 | 40, _ => c5_40 | 41, _ => c5_41 | 42, _ => c5_42 | 43, _ => c5_43 | 44, _ => c5_44 | 45, _ => c5_45 | 46, _ => c5_46 | 47, _ => c5_47 | 48, _ => c5_48 | 49, _ => c5_49 | 50, _ => c5_50 | 51, _ => c5_51 | 52, _ => c5_52 | 53, _ => c5_53 | 54, _ => c5_54 | 55, _ => c5_55 | 56, _ => c5_56 | 57, _ => c5_57 | 58, _ => c5_58 | 59, _ => c5_59 | 60, _ => c5_60 | 61, _ => c5_61 | 62, _ => c5_62 | 63, _ => c5_63 | 64, _ => c5_64 | 65, _ => c5_65 | 66, _ => c5_66 | 67, _ => c5_67 | 68, _ => c5_68 | 69, _ => c5_69 | 70, _ => c5_70 | 71, _ => c5_71 | 72, _ => c5_72 | 73, _ => c5_73 | z + 74, hz => absurd hz (by omega)) rfl) rfl ?_
    refine Ev.seg D_335 [(.iinc 3 6, 3), (.goto (-2373), 3)] (by decide +kernel) (j := 0) (pc' := 18) (lv' := [(3, .int (q.1 + (6 : Int32))), (0, .ref XB), (1, .ref 0), (2, .ref 294)]) (st' := []) rfl ?_
    cases h
    exact Ev.sub (lv' := [(0, .ref XB), (1, .ref 0), (2, .ref 294), (3, .int (q.1 + (6 : Int32)))]) (subL_cons rfl (subL_cons rfl (subL_cons rfl (subL_cons rfl subL_nil)))) ho
theorem gLaw_law_h18_w {L d : Nat} (hd : 13 ≤ d + 1)  : ∀ (n : Nat) (q : Int32 × mT) (r : Int32 × mT), wh n (gLaw_law_h18 L) q = some r → ∀ o, (fun r => o = (some (.int r.1), uS L r.2)) r → Ev (d + 1) 335 18 [(0, .ref XB), (1, .ref 0), (2, .ref 294), (3, .int q.1)] [] (uS L q.2) o :=
  fun n q r h o hc => wh_ev (E := fun (q : Int32 × mT) o => Ev (d + 1) 335 18 [(0, .ref XB), (1, .ref 0), (2, .ref 294), (3, .int q.1)] [] (uS L q.2) o) (C := fun (r : Int32 × mT) o => (fun r => o = (some (.int r.1), uS L r.2)) r) (gLaw_law_h18_ok hd  ) n q r h o hc
theorem gLaw_loop {L d : Nat} (hd : 13 ≤ d + 1) {s : mT} {p : Int32 × mT} (h : wh FU (gLaw_law_h18 L) ((0 : Int32), s) = some p) : Ev (d + 1) 335 18 [(0, .ref XB), (1, .ref 0), (2, .ref 294), (3, .int (0 : Int32))] [] (uS L s) (some (.int p.1), uS L p.2) := by
  obtain ⟨o, ho⟩ : ∃ o : Option Value × mS, o = (some (.int p.1), uS L p.2) := ⟨_, rfl⟩
  rw [← ho]
  exact Ev.sub (lv' := [(0, .ref XB), (1, .ref 0), (2, .ref 294), (3, .int (0 : Int32))]) (subL_cons rfl (subL_cons rfl (subL_cons rfl (subL_cons rfl subL_nil)))) (gLaw_law_h18_w hd   _ _ _ h _ ho)
