/-! facts by program: places of words, classes, cells, callees -/
theorem cl_X0 : ClsOK 0 RX0 TX0 5 tyX0 := ⟨rfl, ly_X0, by decide +kernel, by decide, tyX0_ok, nmX0, by decide +kernel, by decide +kernel⟩
theorem cl_X1 : ClsOK 1 RX1 TX1 3 tyX1 := ⟨rfl, ly_X1, by decide +kernel, by decide, tyX1_ok, nmX1, by decide +kernel, by decide +kernel⟩
theorem cl_X2 : ClsOK 2 RX2 TX2 3 tyX2 := ⟨rfl, ly_X2, by decide +kernel, by decide, tyX2_ok, nmX2, by decide +kernel, by decide +kernel⟩
theorem cl_X3 : ClsOK 3 RX3 TX3 10 tyX3 := ⟨rfl, ly_X3, by decide +kernel, by decide, tyX3_ok, nmX3, by decide +kernel, by decide +kernel⟩
theorem cl_X4 : ClsOK 4 RX4 TX4 13 tyX4 := ⟨rfl, ly_X4, by decide +kernel, by decide, tyX4_ok, nmX4, by decide +kernel, by decide +kernel⟩
theorem cl_X5 : ClsOK 5 RX5 TX5 6 tyX5 := ⟨rfl, ly_X5, by decide +kernel, by decide, tyX5_ok, nmX5, by decide +kernel, by decide +kernel⟩
theorem cl_X6 : ClsOK 6 RX6 TX6 2 tyX6 := ⟨rfl, ly_X6, by decide +kernel, by decide, tyX6_ok, nmX6, by decide +kernel, by decide +kernel⟩
theorem cl_X7 : ClsOK 7 RX7 TX7 17 tyX7 := ⟨rfl, ly_X7, by decide +kernel, by decide, tyX7_ok, nmX7, by decide +kernel, by decide +kernel⟩
theorem cl_X8 : ClsOK 8 RX8 TX8 10 tyX8 := ⟨rfl, ly_X8, by decide +kernel, by decide, tyX8_ok, nmX8, by decide +kernel, by decide +kernel⟩
theorem cl_X9 : ClsOK 9 RX9 TX9 8 tyX9 := ⟨rfl, ly_X9, by decide +kernel, by decide, tyX9_ok, nmX9, by decide +kernel, by decide +kernel⟩
theorem cl_X10 : ClsOK 10 RX10 TX10 10 tyX10 := ⟨rfl, ly_X10, by decide +kernel, by decide, tyX10_ok, nmX10, by decide +kernel, by decide +kernel⟩
theorem cl_X11 : ClsOK 11 RX11 TX11 15 tyX11 := ⟨rfl, ly_X11, by decide +kernel, by decide, tyX11_ok, nmX11, by decide +kernel, by decide +kernel⟩
theorem cl_X12 : ClsOK 12 RX12 TX12 80 tyX12 := ⟨rfl, ly_X12, by decide +kernel, by decide, tyX12_ok, nmX12, by decide +kernel, by decide +kernel⟩
def gLx (n : Nat) (R : Srf) : Prop := 55 ≤ n ∧ R 53 5 = 54
theorem gc_262 : nC ≤ 262 := by decide
theorem gc_263 : nC ≤ 263 := by decide
theorem gc_264 : nC ≤ 264 := by decide
theorem gc_265 : nC ≤ 265 := by decide
theorem gc_266 : nC ≤ 266 := by decide
theorem gc_267 : nC ≤ 267 := by decide
theorem gc_268 : nC ≤ 268 := by decide
theorem gc_269 : nC ≤ 269 := by decide
theorem gc_270 : nC ≤ 270 := by decide
theorem gc_271 : nC ≤ 271 := by decide
theorem gc_272 : nC ≤ 272 := by decide
theorem gc_273 : nC ≤ 273 := by decide
theorem gc_274 : nC ≤ 274 := by decide
theorem gc_275 : nC ≤ 275 := by decide
theorem gc_276 : nC ≤ 276 := by decide
theorem gc_277 : nC ≤ 277 := by decide
theorem gc_278 : nC ≤ 278 := by decide
theorem gc_279 : nC ≤ 279 := by decide
theorem gc_280 : nC ≤ 280 := by decide
theorem gc_281 : nC ≤ 281 := by decide
theorem gc_282 : nC ≤ 282 := by decide
theorem gc_283 : nC ≤ 283 := by decide
theorem gc_284 : nC ≤ 284 := by decide
theorem gc_285 : nC ≤ 285 := by decide
theorem gc_286 : nC ≤ 286 := by decide
theorem gc_287 : nC ≤ 287 := by decide
theorem gc_288 : nC ≤ 288 := by decide
theorem gc_289 : nC ≤ 289 := by decide
theorem gc_290 : nC ≤ 290 := by decide
theorem gc_291 : nC ≤ 291 := by decide
theorem gc_292 : nC ≤ 292 := by decide
theorem gc_293 : nC ≤ 293 := by decide
theorem gc_294 : nC ≤ 294 := by decide
theorem gc_295 : nC ≤ 295 := by decide
theorem gc_296 : nC ≤ 296 := by decide
theorem gc_297 : nC ≤ 297 := by decide
theorem gc_298 : nC ≤ 298 := by decide
theorem gc_299 : nC ≤ 299 := by decide
theorem gc_300 : nC ≤ 300 := by decide
theorem gc_301 : nC ≤ 301 := by decide
theorem gc_302 : nC ≤ 302 := by decide
theorem gc_303 : nC ≤ 303 := by decide
theorem gc_304 : nC ≤ 304 := by decide
theorem gc_305 : nC ≤ 305 := by decide
theorem gc_306 : nC ≤ 306 := by decide
theorem kd_0 : Kd 0 = 11 := by decide +kernel
theorem kd_1 : Kd 1 = 6 := by decide +kernel
theorem kd_10 : Kd 10 = 6 := by decide +kernel
theorem kd_101 : Kd 101 = 6 := by decide +kernel
theorem kd_103 : Kd 103 = 6 := by decide +kernel
theorem kd_105 : Kd 105 = 6 := by decide +kernel
theorem kd_107 : Kd 107 = 7 := by decide +kernel
theorem kd_108 : Kd 108 = 6 := by decide +kernel
theorem kd_110 : Kd 110 = 6 := by decide +kernel
theorem kd_112 : Kd 112 = 6 := by decide +kernel
theorem kd_114 : Kd 114 = 6 := by decide +kernel
theorem kd_116 : Kd 116 = 6 := by decide +kernel
theorem kd_118 : Kd 118 = 6 := by decide +kernel
theorem kd_12 : Kd 12 = 6 := by decide +kernel
theorem kd_120 : Kd 120 = 6 := by decide +kernel
theorem kd_122 : Kd 122 = 6 := by decide +kernel
theorem kd_124 : Kd 124 = 6 := by decide +kernel
theorem kd_126 : Kd 126 = 6 := by decide +kernel
theorem kd_128 : Kd 128 = 6 := by decide +kernel
theorem kd_130 : Kd 130 = 6 := by decide +kernel
theorem kd_132 : Kd 132 = 6 := by decide +kernel
theorem kd_134 : Kd 134 = 6 := by decide +kernel
theorem kd_136 : Kd 136 = 6 := by decide +kernel
theorem kd_138 : Kd 138 = 6 := by decide +kernel
theorem kd_14 : Kd 14 = 6 := by decide +kernel
theorem kd_140 : Kd 140 = 7 := by decide +kernel
theorem kd_141 : Kd 141 = 6 := by decide +kernel
theorem kd_143 : Kd 143 = 6 := by decide +kernel
theorem kd_145 : Kd 145 = 6 := by decide +kernel
theorem kd_147 : Kd 147 = 6 := by decide +kernel
theorem kd_149 : Kd 149 = 6 := by decide +kernel
theorem kd_151 : Kd 151 = 6 := by decide +kernel
theorem kd_153 : Kd 153 = 6 := by decide +kernel
theorem kd_155 : Kd 155 = 6 := by decide +kernel
theorem kd_157 : Kd 157 = 6 := by decide +kernel
theorem kd_159 : Kd 159 = 6 := by decide +kernel
theorem kd_16 : Kd 16 = 6 := by decide +kernel
theorem kd_161 : Kd 161 = 6 := by decide +kernel
theorem kd_163 : Kd 163 = 6 := by decide +kernel
theorem kd_165 : Kd 165 = 6 := by decide +kernel
theorem kd_167 : Kd 167 = 6 := by decide +kernel
theorem kd_169 : Kd 169 = 6 := by decide +kernel
theorem kd_171 : Kd 171 = 6 := by decide +kernel
theorem kd_173 : Kd 173 = 7 := by decide +kernel
theorem kd_174 : Kd 174 = 6 := by decide +kernel
theorem kd_176 : Kd 176 = 6 := by decide +kernel
theorem kd_178 : Kd 178 = 6 := by decide +kernel
theorem kd_18 : Kd 18 = 6 := by decide +kernel
theorem kd_180 : Kd 180 = 6 := by decide +kernel
theorem kd_182 : Kd 182 = 6 := by decide +kernel
theorem kd_184 : Kd 184 = 6 := by decide +kernel
theorem kd_186 : Kd 186 = 6 := by decide +kernel
theorem kd_188 : Kd 188 = 6 := by decide +kernel
theorem kd_190 : Kd 190 = 6 := by decide +kernel
theorem kd_192 : Kd 192 = 6 := by decide +kernel
theorem kd_194 : Kd 194 = 6 := by decide +kernel
theorem kd_196 : Kd 196 = 6 := by decide +kernel
theorem kd_198 : Kd 198 = 6 := by decide +kernel
theorem kd_20 : Kd 20 = 6 := by decide +kernel
theorem kd_200 : Kd 200 = 6 := by decide +kernel
theorem kd_202 : Kd 202 = 6 := by decide +kernel
theorem kd_204 : Kd 204 = 6 := by decide +kernel
theorem kd_206 : Kd 206 = 7 := by decide +kernel
theorem kd_207 : Kd 207 = 6 := by decide +kernel
theorem kd_209 : Kd 209 = 6 := by decide +kernel
theorem kd_211 : Kd 211 = 6 := by decide +kernel
theorem kd_213 : Kd 213 = 6 := by decide +kernel
theorem kd_215 : Kd 215 = 6 := by decide +kernel
theorem kd_217 : Kd 217 = 6 := by decide +kernel
theorem kd_219 : Kd 219 = 6 := by decide +kernel
theorem kd_22 : Kd 22 = 6 := by decide +kernel
theorem kd_221 : Kd 221 = 6 := by decide +kernel
theorem kd_223 : Kd 223 = 6 := by decide +kernel
theorem kd_225 : Kd 225 = 6 := by decide +kernel
theorem kd_227 : Kd 227 = 6 := by decide +kernel
theorem kd_229 : Kd 229 = 6 := by decide +kernel
theorem kd_231 : Kd 231 = 6 := by decide +kernel
theorem kd_233 : Kd 233 = 6 := by decide +kernel
theorem kd_235 : Kd 235 = 6 := by decide +kernel
theorem kd_237 : Kd 237 = 6 := by decide +kernel
theorem kd_239 : Kd 239 = 0 := by decide +kernel
theorem kd_24 : Kd 24 = 1 := by decide +kernel
theorem kd_240 : Kd 240 = 6 := by decide +kernel
theorem kd_242 : Kd 242 = 8 := by decide +kernel
theorem kd_243 : Kd 243 = 6 := by decide +kernel
theorem kd_245 : Kd 245 = 6 := by decide +kernel
theorem kd_247 : Kd 247 = 6 := by decide +kernel
theorem kd_249 : Kd 249 = 9 := by decide +kernel
theorem kd_25 : Kd 25 = 6 := by decide +kernel
theorem kd_250 : Kd 250 = 6 := by decide +kernel
theorem kd_252 : Kd 252 = 6 := by decide +kernel
theorem kd_254 : Kd 254 = 6 := by decide +kernel
theorem kd_256 : Kd 256 = 6 := by decide +kernel
theorem kd_258 : Kd 258 = 6 := by decide +kernel
theorem kd_260 : Kd 260 = 6 := by decide +kernel
theorem kd_262 : Kd 262 = 12 := by decide +kernel
theorem kd_263 : Kd 263 = 100 := by decide +kernel
theorem kd_264 : Kd 264 = 100 := by decide +kernel
theorem kd_265 : Kd 265 = 100 := by decide +kernel
theorem kd_266 : Kd 266 = 100 := by decide +kernel
theorem kd_267 : Kd 267 = 100 := by decide +kernel
theorem kd_268 : Kd 268 = 100 := by decide +kernel
theorem kd_269 : Kd 269 = 100 := by decide +kernel
theorem kd_27 : Kd 27 = 6 := by decide +kernel
theorem kd_270 : Kd 270 = 100 := by decide +kernel
theorem kd_271 : Kd 271 = 102 := by decide +kernel
theorem kd_272 : Kd 272 = 100 := by decide +kernel
theorem kd_273 : Kd 273 = 100 := by decide +kernel
theorem kd_274 : Kd 274 = 100 := by decide +kernel
theorem kd_275 : Kd 275 = 100 := by decide +kernel
theorem kd_276 : Kd 276 = 100 := by decide +kernel
theorem kd_277 : Kd 277 = 100 := by decide +kernel
theorem kd_278 : Kd 278 = 100 := by decide +kernel
theorem kd_279 : Kd 279 = 100 := by decide +kernel
theorem kd_280 : Kd 280 = 100 := by decide +kernel
theorem kd_281 : Kd 281 = 100 := by decide +kernel
theorem kd_282 : Kd 282 = 100 := by decide +kernel
theorem kd_283 : Kd 283 = 100 := by decide +kernel
theorem kd_284 : Kd 284 = 100 := by decide +kernel
theorem kd_285 : Kd 285 = 100 := by decide +kernel
theorem kd_286 : Kd 286 = 100 := by decide +kernel
theorem kd_287 : Kd 287 = 100 := by decide +kernel
theorem kd_288 : Kd 288 = 100 := by decide +kernel
theorem kd_289 : Kd 289 = 100 := by decide +kernel
theorem kd_29 : Kd 29 = 4 := by decide +kernel
theorem kd_290 : Kd 290 = 100 := by decide +kernel
theorem kd_291 : Kd 291 = 100 := by decide +kernel
theorem kd_292 : Kd 292 = 100 := by decide +kernel
theorem kd_293 : Kd 293 = 100 := by decide +kernel
theorem kd_294 : Kd 294 = 100 := by decide +kernel
theorem kd_295 : Kd 295 = 100 := by decide +kernel
theorem kd_296 : Kd 296 = 100 := by decide +kernel
theorem kd_297 : Kd 297 = 100 := by decide +kernel
theorem kd_298 : Kd 298 = 100 := by decide +kernel
theorem kd_299 : Kd 299 = 100 := by decide +kernel
theorem kd_3 : Kd 3 = 6 := by decide +kernel
theorem kd_30 : Kd 30 = 6 := by decide +kernel
theorem kd_300 : Kd 300 = 100 := by decide +kernel
theorem kd_301 : Kd 301 = 103 := by decide +kernel
theorem kd_302 : Kd 302 = 100 := by decide +kernel
theorem kd_303 : Kd 303 = 103 := by decide +kernel
theorem kd_304 : Kd 304 = 103 := by decide +kernel
theorem kd_305 : Kd 305 = 100 := by decide +kernel
theorem kd_306 : Kd 306 = 100 := by decide +kernel
theorem kd_32 : Kd 32 = 6 := by decide +kernel
theorem kd_34 : Kd 34 = 6 := by decide +kernel
theorem kd_36 : Kd 36 = 6 := by decide +kernel
theorem kd_38 : Kd 38 = 6 := by decide +kernel
theorem kd_40 : Kd 40 = 6 := by decide +kernel
theorem kd_42 : Kd 42 = 6 := by decide +kernel
theorem kd_44 : Kd 44 = 6 := by decide +kernel
theorem kd_46 : Kd 46 = 6 := by decide +kernel
theorem kd_48 : Kd 48 = 1 := by decide +kernel
theorem kd_49 : Kd 49 = 6 := by decide +kernel
theorem kd_5 : Kd 5 = 4 := by decide +kernel
theorem kd_51 : Kd 51 = 6 := by decide +kernel
theorem kd_53 : Kd 53 = 3 := by decide +kernel
theorem kd_54 : Kd 54 = 102 := by decide +kernel
theorem kd_55 : Kd 55 = 5 := by decide +kernel
theorem kd_56 : Kd 56 = 2 := by decide +kernel
theorem kd_57 : Kd 57 = 6 := by decide +kernel
theorem kd_59 : Kd 59 = 10 := by decide +kernel
theorem kd_6 : Kd 6 = 6 := by decide +kernel
theorem kd_60 : Kd 60 = 6 := by decide +kernel
theorem kd_62 : Kd 62 = 6 := by decide +kernel
theorem kd_64 : Kd 64 = 6 := by decide +kernel
theorem kd_66 : Kd 66 = 6 := by decide +kernel
theorem kd_68 : Kd 68 = 6 := by decide +kernel
theorem kd_70 : Kd 70 = 6 := by decide +kernel
theorem kd_72 : Kd 72 = 6 := by decide +kernel
theorem kd_74 : Kd 74 = 7 := by decide +kernel
theorem kd_75 : Kd 75 = 6 := by decide +kernel
theorem kd_77 : Kd 77 = 6 := by decide +kernel
theorem kd_79 : Kd 79 = 6 := by decide +kernel
theorem kd_8 : Kd 8 = 6 := by decide +kernel
theorem kd_81 : Kd 81 = 6 := by decide +kernel
theorem kd_83 : Kd 83 = 6 := by decide +kernel
theorem kd_85 : Kd 85 = 6 := by decide +kernel
theorem kd_87 : Kd 87 = 6 := by decide +kernel
theorem kd_89 : Kd 89 = 6 := by decide +kernel
theorem kd_91 : Kd 91 = 6 := by decide +kernel
theorem kd_93 : Kd 93 = 6 := by decide +kernel
theorem kd_95 : Kd 95 = 6 := by decide +kernel
theorem kd_97 : Kd 97 = 6 := by decide +kernel
theorem kd_99 : Kd 99 = 6 := by decide +kernel
theorem lc_140 : 140 < nC := by decide
theorem lc_173 : 173 < nC := by decide
theorem lc_206 : 206 < nC := by decide
theorem lc_239 : 239 < nC := by decide
theorem lc_242 : 242 < nC := by decide
theorem lc_249 : 249 < nC := by decide
theorem lc_29 : 29 < nC := by decide
theorem lc_5 : 5 < nC := by decide
theorem lc_53 : 53 < nC := by decide
theorem lc_54 : 54 < nC := by decide
theorem lc_55 : 55 < nC := by decide
theorem lc_56 : 56 < nC := by decide
theorem lc_59 : 59 < nC := by decide
theorem ln_0 : 0 < n0 := by decide
theorem ln_1 : 1 < n0 := by decide
theorem ln_101 : 101 < n0 := by decide
theorem ln_103 : 103 < n0 := by decide
theorem ln_105 : 105 < n0 := by decide
theorem ln_107 : 107 < n0 := by decide
theorem ln_140 : 140 < n0 := by decide
theorem ln_173 : 173 < n0 := by decide
theorem ln_206 : 206 < n0 := by decide
theorem ln_239 : 239 < n0 := by decide
theorem ln_240 : 240 < n0 := by decide
theorem ln_242 : 242 < n0 := by decide
theorem ln_243 : 243 < n0 := by decide
theorem ln_245 : 245 < n0 := by decide
theorem ln_247 : 247 < n0 := by decide
theorem ln_249 : 249 < n0 := by decide
theorem ln_250 : 250 < n0 := by decide
theorem ln_252 : 252 < n0 := by decide
theorem ln_254 : 254 < n0 := by decide
theorem ln_256 : 256 < n0 := by decide
theorem ln_258 : 258 < n0 := by decide
theorem ln_260 : 260 < n0 := by decide
theorem ln_262 : 262 < n0 := by decide
theorem ln_263 : 263 < n0 := by decide
theorem ln_264 : 264 < n0 := by decide
theorem ln_265 : 265 < n0 := by decide
theorem ln_266 : 266 < n0 := by decide
theorem ln_267 : 267 < n0 := by decide
theorem ln_268 : 268 < n0 := by decide
theorem ln_269 : 269 < n0 := by decide
theorem ln_270 : 270 < n0 := by decide
theorem ln_271 : 271 < n0 := by decide
theorem ln_272 : 272 < n0 := by decide
theorem ln_273 : 273 < n0 := by decide
theorem ln_274 : 274 < n0 := by decide
theorem ln_275 : 275 < n0 := by decide
theorem ln_276 : 276 < n0 := by decide
theorem ln_277 : 277 < n0 := by decide
theorem ln_278 : 278 < n0 := by decide
theorem ln_279 : 279 < n0 := by decide
theorem ln_280 : 280 < n0 := by decide
theorem ln_281 : 281 < n0 := by decide
theorem ln_282 : 282 < n0 := by decide
theorem ln_283 : 283 < n0 := by decide
theorem ln_284 : 284 < n0 := by decide
theorem ln_285 : 285 < n0 := by decide
theorem ln_286 : 286 < n0 := by decide
theorem ln_287 : 287 < n0 := by decide
theorem ln_288 : 288 < n0 := by decide
theorem ln_289 : 289 < n0 := by decide
theorem ln_29 : 29 < n0 := by decide
theorem ln_290 : 290 < n0 := by decide
theorem ln_291 : 291 < n0 := by decide
theorem ln_292 : 292 < n0 := by decide
theorem ln_293 : 293 < n0 := by decide
theorem ln_294 : 294 < n0 := by decide
theorem ln_295 : 295 < n0 := by decide
theorem ln_296 : 296 < n0 := by decide
theorem ln_297 : 297 < n0 := by decide
theorem ln_298 : 298 < n0 := by decide
theorem ln_299 : 299 < n0 := by decide
theorem ln_3 : 3 < n0 := by decide
theorem ln_30 : 30 < n0 := by decide
theorem ln_300 : 300 < n0 := by decide
theorem ln_301 : 301 < n0 := by decide
theorem ln_302 : 302 < n0 := by decide
theorem ln_303 : 303 < n0 := by decide
theorem ln_304 : 304 < n0 := by decide
theorem ln_305 : 305 < n0 := by decide
theorem ln_306 : 306 < n0 := by decide
theorem ln_32 : 32 < n0 := by decide
theorem ln_34 : 34 < n0 := by decide
theorem ln_36 : 36 < n0 := by decide
theorem ln_38 : 38 < n0 := by decide
theorem ln_42 : 42 < n0 := by decide
theorem ln_44 : 44 < n0 := by decide
theorem ln_46 : 46 < n0 := by decide
theorem ln_5 : 5 < n0 := by decide
theorem ln_53 : 53 < n0 := by decide
theorem ln_54 : 54 < n0 := by decide
theorem ln_55 : 55 < n0 := by decide
theorem ln_56 : 56 < n0 := by decide
theorem ln_57 : 57 < n0 := by decide
theorem ln_59 : 59 < n0 := by decide
theorem ln_60 : 60 < n0 := by decide
theorem ln_62 : 62 < n0 := by decide
theorem ln_64 : 64 < n0 := by decide
theorem ln_68 : 68 < n0 := by decide
theorem ln_70 : 70 < n0 := by decide
theorem ln_72 : 72 < n0 := by decide
theorem ln_74 : 74 < n0 := by decide
theorem ln_75 : 75 < n0 := by decide
theorem ln_77 : 77 < n0 := by decide
theorem ln_79 : 79 < n0 := by decide
theorem ln_81 : 81 < n0 := by decide
theorem ln_83 : 83 < n0 := by decide
theorem ln_85 : 85 < n0 := by decide
theorem ln_87 : 87 < n0 := by decide
theorem ln_89 : 89 < n0 := by decide
theorem ln_91 : 91 < n0 := by decide
theorem ln_93 : 93 < n0 := by decide
theorem ln_95 : 95 < n0 := by decide
theorem ln_99 : 99 < n0 := by decide
theorem r0_0_0 : R0 0 0 = 1 := by decide +kernel
theorem r0_0_1 : R0 0 1 = 3 := by decide +kernel
theorem r0_0_10 : R0 0 10 = 173 := by decide +kernel
theorem r0_0_11 : R0 0 11 = 206 := by decide +kernel
theorem r0_0_12 : R0 0 12 = 239 := by decide +kernel
theorem r0_0_13 : R0 0 13 = 242 := by decide +kernel
theorem r0_0_14 : R0 0 14 = 249 := by decide +kernel
theorem r0_0_2 : R0 0 2 = 5 := by decide +kernel
theorem r0_0_3 : R0 0 3 = 29 := by decide +kernel
theorem r0_0_4 : R0 0 4 = 53 := by decide +kernel
theorem r0_0_5 : R0 0 5 = 55 := by decide +kernel
theorem r0_0_6 : R0 0 6 = 59 := by decide +kernel
theorem r0_0_7 : R0 0 7 = 74 := by decide +kernel
theorem r0_0_8 : R0 0 8 = 107 := by decide +kernel
theorem r0_0_9 : R0 0 9 = 140 := by decide +kernel
theorem r0_239_0 : R0 239 0 = 240 := by decide +kernel
theorem r0_239_2 : R0 239 2 = 29 := by decide +kernel
theorem r0_239_3 : R0 239 3 = 59 := by decide +kernel
theorem r0_239_4 : R0 239 4 = 74 := by decide +kernel
theorem r0_242_0 : R0 242 0 = 243 := by decide +kernel
theorem r0_242_5 : R0 242 5 = 29 := by decide +kernel
theorem r0_242_6 : R0 242 6 = 59 := by decide +kernel
theorem r0_242_7 : R0 242 7 = 74 := by decide +kernel
theorem r0_242_8 : R0 242 8 = 245 := by decide +kernel
theorem r0_242_9 : R0 242 9 = 247 := by decide +kernel
theorem r0_249_0 : R0 249 0 = 250 := by decide +kernel
theorem r0_249_1 : R0 249 1 = 254 := by decide +kernel
theorem r0_249_3 : R0 249 3 = 29 := by decide +kernel
theorem r0_249_4 : R0 249 4 = 256 := by decide +kernel
theorem r0_249_5 : R0 249 5 = 258 := by decide +kernel
theorem r0_249_6 : R0 249 6 = 260 := by decide +kernel
theorem r0_249_7 : R0 249 7 = 252 := by decide +kernel
theorem r0_262_0 : R0 262 0 = 263 := by decide +kernel
theorem r0_262_10 : R0 262 10 = 264 := by decide +kernel
theorem r0_262_11 : R0 262 11 = 265 := by decide +kernel
theorem r0_262_12 : R0 262 12 = 266 := by decide +kernel
theorem r0_262_13 : R0 262 13 = 267 := by decide +kernel
theorem r0_262_14 : R0 262 14 = 268 := by decide +kernel
theorem r0_262_15 : R0 262 15 = 269 := by decide +kernel
theorem r0_262_25 : R0 262 25 = 270 := by decide +kernel
theorem r0_262_26 : R0 262 26 = 271 := by decide +kernel
theorem r0_262_27 : R0 262 27 = 272 := by decide +kernel
theorem r0_262_28 : R0 262 28 = 273 := by decide +kernel
theorem r0_262_29 : R0 262 29 = 274 := by decide +kernel
theorem r0_262_30 : R0 262 30 = 275 := by decide +kernel
theorem r0_262_31 : R0 262 31 = 276 := by decide +kernel
theorem r0_262_32 : R0 262 32 = 277 := by decide +kernel
theorem r0_262_33 : R0 262 33 = 278 := by decide +kernel
theorem r0_262_34 : R0 262 34 = 279 := by decide +kernel
theorem r0_262_35 : R0 262 35 = 280 := by decide +kernel
theorem r0_262_44 : R0 262 44 = 281 := by decide +kernel
theorem r0_262_46 : R0 262 46 = 282 := by decide +kernel
theorem r0_262_50 : R0 262 50 = 283 := by decide +kernel
theorem r0_262_51 : R0 262 51 = 284 := by decide +kernel
theorem r0_262_52 : R0 262 52 = 285 := by decide +kernel
theorem r0_262_53 : R0 262 53 = 286 := by decide +kernel
theorem r0_262_54 : R0 262 54 = 287 := by decide +kernel
theorem r0_262_55 : R0 262 55 = 288 := by decide +kernel
theorem r0_262_56 : R0 262 56 = 289 := by decide +kernel
theorem r0_262_57 : R0 262 57 = 290 := by decide +kernel
theorem r0_262_60 : R0 262 60 = 291 := by decide +kernel
theorem r0_262_61 : R0 262 61 = 292 := by decide +kernel
theorem r0_262_63 : R0 262 63 = 293 := by decide +kernel
theorem r0_262_64 : R0 262 64 = 294 := by decide +kernel
theorem r0_262_65 : R0 262 65 = 295 := by decide +kernel
theorem r0_262_66 : R0 262 66 = 296 := by decide +kernel
theorem r0_262_68 : R0 262 68 = 297 := by decide +kernel
theorem r0_262_69 : R0 262 69 = 298 := by decide +kernel
theorem r0_262_70 : R0 262 70 = 299 := by decide +kernel
theorem r0_262_71 : R0 262 71 = 300 := by decide +kernel
theorem r0_262_72 : R0 262 72 = 301 := by decide +kernel
theorem r0_262_75 : R0 262 75 = 302 := by decide +kernel
theorem r0_262_76 : R0 262 76 = 303 := by decide +kernel
theorem r0_262_77 : R0 262 77 = 304 := by decide +kernel
theorem r0_262_78 : R0 262 78 = 305 := by decide +kernel
theorem r0_262_79 : R0 262 79 = 306 := by decide +kernel
theorem r0_29_0 : R0 29 0 = 30 := by decide +kernel
theorem r0_29_1 : R0 29 1 = 32 := by decide +kernel
theorem r0_29_2 : R0 29 2 = 34 := by decide +kernel
theorem r0_29_3 : R0 29 3 = 36 := by decide +kernel
theorem r0_29_4 : R0 29 4 = 38 := by decide +kernel
theorem r0_29_6 : R0 29 6 = 42 := by decide +kernel
theorem r0_29_7 : R0 29 7 = 44 := by decide +kernel
theorem r0_29_8 : R0 29 8 = 46 := by decide +kernel
theorem r0_53_4 : R0 53 4 = 1 := by decide +kernel
theorem r0_53_5 : R0 53 5 = 54 := by decide +kernel
theorem r0_55_0 : R0 55 0 = 53 := by decide +kernel
theorem r0_55_1 : R0 55 1 = 5 := by decide +kernel
theorem r0_55_2 : R0 55 2 = 56 := by decide +kernel
theorem r0_56_0 : R0 56 0 = 53 := by decide +kernel
theorem r0_56_1 : R0 56 1 = 57 := by decide +kernel
theorem r0_59_0 : R0 59 0 = 60 := by decide +kernel
theorem r0_59_1 : R0 59 1 = 62 := by decide +kernel
theorem r0_59_2 : R0 59 2 = 64 := by decide +kernel
theorem r0_59_3 : R0 59 3 = 66 := by decide +kernel
theorem r0_59_4 : R0 59 4 = 68 := by decide +kernel
theorem r0_59_7 : R0 59 7 = 29 := by decide +kernel
theorem r0_59_8 : R0 59 8 = 70 := by decide +kernel
theorem r0_59_9 : R0 59 9 = 72 := by decide +kernel
theorem r0_5_9 : R0 5 9 = 24 := by decide +kernel
theorem r0_74_0 : R0 74 0 = 75 := by decide +kernel
theorem r0_74_1 : R0 74 1 = 77 := by decide +kernel
theorem r0_74_10 : R0 74 10 = 95 := by decide +kernel
theorem r0_74_12 : R0 74 12 = 99 := by decide +kernel
theorem r0_74_13 : R0 74 13 = 101 := by decide +kernel
theorem r0_74_14 : R0 74 14 = 103 := by decide +kernel
theorem r0_74_15 : R0 74 15 = 105 := by decide +kernel
theorem r0_74_2 : R0 74 2 = 79 := by decide +kernel
theorem r0_74_3 : R0 74 3 = 81 := by decide +kernel
theorem r0_74_4 : R0 74 4 = 83 := by decide +kernel
theorem r0_74_5 : R0 74 5 = 85 := by decide +kernel
theorem r0_74_6 : R0 74 6 = 87 := by decide +kernel
theorem r0_74_7 : R0 74 7 = 89 := by decide +kernel
theorem r0_74_8 : R0 74 8 = 91 := by decide +kernel
theorem r0_74_9 : R0 74 9 = 93 := by decide +kernel
theorem gf_24 : gFm n0 R0 24 := ⟨by decide, by decide, by decide +kernel⟩
theorem gp_29 : gPl n0 R0 29 := ⟨by decide, by decide, by decide +kernel⟩
theorem gp_5 : gPl n0 R0 5 := ⟨by decide, by decide, by decide +kernel⟩
theorem gs_107 : gSt n0 R0 107 := ⟨by decide, by decide, by decide +kernel⟩
theorem gs_140 : gSt n0 R0 140 := ⟨by decide, by decide, by decide +kernel⟩
theorem gs_173 : gSt n0 R0 173 := ⟨by decide, by decide, by decide +kernel⟩
theorem gs_206 : gSt n0 R0 206 := ⟨by decide, by decide, by decide +kernel⟩
theorem gs_74 : gSt n0 R0 74 := ⟨by decide, by decide, by decide +kernel⟩
theorem gw_1 : gRw n0 R0 1 := ⟨by decide +kernel, by decide, by decide, by decide +kernel⟩
theorem gw_101 : gRw n0 R0 101 := ⟨by decide +kernel, by decide, by decide, by decide +kernel⟩
theorem gw_103 : gRw n0 R0 103 := ⟨by decide +kernel, by decide, by decide, by decide +kernel⟩
theorem gw_105 : gRw n0 R0 105 := ⟨by decide +kernel, by decide, by decide, by decide +kernel⟩
theorem gw_240 : gRw n0 R0 240 := ⟨by decide +kernel, by decide, by decide, by decide +kernel⟩
theorem gw_243 : gRw n0 R0 243 := ⟨by decide +kernel, by decide, by decide, by decide +kernel⟩
theorem gw_245 : gRw n0 R0 245 := ⟨by decide +kernel, by decide, by decide, by decide +kernel⟩
theorem gw_247 : gRw n0 R0 247 := ⟨by decide +kernel, by decide, by decide, by decide +kernel⟩
theorem gw_250 : gRw n0 R0 250 := ⟨by decide +kernel, by decide, by decide, by decide +kernel⟩
theorem gw_252 : gRw n0 R0 252 := ⟨by decide +kernel, by decide, by decide, by decide +kernel⟩
theorem gw_254 : gRw n0 R0 254 := ⟨by decide +kernel, by decide, by decide, by decide +kernel⟩
theorem gw_256 : gRw n0 R0 256 := ⟨by decide +kernel, by decide, by decide, by decide +kernel⟩
theorem gw_258 : gRw n0 R0 258 := ⟨by decide +kernel, by decide, by decide, by decide +kernel⟩
theorem gw_260 : gRw n0 R0 260 := ⟨by decide +kernel, by decide, by decide, by decide +kernel⟩
theorem gw_3 : gRw n0 R0 3 := ⟨by decide +kernel, by decide, by decide, by decide +kernel⟩
theorem gw_30 : gRw n0 R0 30 := ⟨by decide +kernel, by decide, by decide, by decide +kernel⟩
theorem gw_32 : gRw n0 R0 32 := ⟨by decide +kernel, by decide, by decide, by decide +kernel⟩
theorem gw_34 : gRw n0 R0 34 := ⟨by decide +kernel, by decide, by decide, by decide +kernel⟩
theorem gw_36 : gRw n0 R0 36 := ⟨by decide +kernel, by decide, by decide, by decide +kernel⟩
theorem gw_38 : gRw n0 R0 38 := ⟨by decide +kernel, by decide, by decide, by decide +kernel⟩
theorem gw_42 : gRw n0 R0 42 := ⟨by decide +kernel, by decide, by decide, by decide +kernel⟩
theorem gw_44 : gRw n0 R0 44 := ⟨by decide +kernel, by decide, by decide, by decide +kernel⟩
theorem gw_46 : gRw n0 R0 46 := ⟨by decide +kernel, by decide, by decide, by decide +kernel⟩
theorem gw_57 : gRw n0 R0 57 := ⟨by decide +kernel, by decide, by decide, by decide +kernel⟩
theorem gw_60 : gRw n0 R0 60 := ⟨by decide +kernel, by decide, by decide, by decide +kernel⟩
theorem gw_62 : gRw n0 R0 62 := ⟨by decide +kernel, by decide, by decide, by decide +kernel⟩
theorem gw_64 : gRw n0 R0 64 := ⟨by decide +kernel, by decide, by decide, by decide +kernel⟩
theorem gw_66 : gRw n0 R0 66 := ⟨by decide +kernel, by decide, by decide, by decide +kernel⟩
theorem gw_68 : gRw n0 R0 68 := ⟨by decide +kernel, by decide, by decide, by decide +kernel⟩
theorem gw_70 : gRw n0 R0 70 := ⟨by decide +kernel, by decide, by decide, by decide +kernel⟩
theorem gw_72 : gRw n0 R0 72 := ⟨by decide +kernel, by decide, by decide, by decide +kernel⟩
theorem gw_75 : gRw n0 R0 75 := ⟨by decide +kernel, by decide, by decide, by decide +kernel⟩
theorem gw_77 : gRw n0 R0 77 := ⟨by decide +kernel, by decide, by decide, by decide +kernel⟩
theorem gw_79 : gRw n0 R0 79 := ⟨by decide +kernel, by decide, by decide, by decide +kernel⟩
theorem gw_81 : gRw n0 R0 81 := ⟨by decide +kernel, by decide, by decide, by decide +kernel⟩
theorem gw_83 : gRw n0 R0 83 := ⟨by decide +kernel, by decide, by decide, by decide +kernel⟩
theorem gw_85 : gRw n0 R0 85 := ⟨by decide +kernel, by decide, by decide, by decide +kernel⟩
theorem gw_87 : gRw n0 R0 87 := ⟨by decide +kernel, by decide, by decide, by decide +kernel⟩
theorem gw_89 : gRw n0 R0 89 := ⟨by decide +kernel, by decide, by decide, by decide +kernel⟩
theorem gw_91 : gRw n0 R0 91 := ⟨by decide +kernel, by decide, by decide, by decide +kernel⟩
theorem gw_93 : gRw n0 R0 93 := ⟨by decide +kernel, by decide, by decide, by decide +kernel⟩
theorem gw_95 : gRw n0 R0 95 := ⟨by decide +kernel, by decide, by decide, by decide +kernel⟩
theorem gw_99 : gRw n0 R0 99 := ⟨by decide +kernel, by decide, by decide, by decide +kernel⟩
theorem gLx0 : gLx n0 R0 := ⟨by decide, by decide +kernel⟩
theorem cal_J0_charAt_5068e : CalV yJ0_charAt_5068e cJ0_charAt_5068e 2 (some .char) 1 := ⟨q_296, q_297, q_133, q_298, by decide +kernel⟩
theorem cal_J0_indexOf_0f7a4 : CalV yJ0_indexOf_0f7a4 cJ0_indexOf_0f7a4 2 (some .int) 1 := ⟨q_798, q_799, q_133, q_800, by decide +kernel⟩
theorem cal_J0_length_8abf5 : CalV yJ0_length_8abf5 cJ0_length_8abf5 1 (some .int) 0 := ⟨q_286, q_287, q_133, q_288, by decide +kernel⟩
theorem cal_J6_bitCount_0f7a4 : CalS yJ6_bitCount_0f7a4 cJ6_bitCount_0f7a4 1 (some .int) 1 := ⟨q_1108, q_146, q_1109, by decide +kernel⟩
theorem cal_J6_compare_7cf53 : CalS yJ6_compare_7cf53 cJ6_compare_7cf53 2 (some .int) 2 := ⟨q_912, q_146, q_913, by decide +kernel⟩
theorem cal_J9_abs_0f7a4 : CalS yJ9_abs_0f7a4 cJ9_abs_0f7a4 1 (some .int) 1 := ⟨q_1339, q_129, q_1340, by decide +kernel⟩
theorem cal_J9_floorDiv_7cf53 : CalS yJ9_floorDiv_7cf53 cJ9_floorDiv_7cf53 3 (some .int) 2 := ⟨q_1459, q_129, q_1460, by decide +kernel⟩
theorem cal_J9_max_7cf53 : CalS yJ9_max_7cf53 cJ9_max_7cf53 2 (some .int) 2 := ⟨q_162, q_129, q_163, by decide +kernel⟩
theorem cal_J9_min_7cf53 : CalS yJ9_min_7cf53 cJ9_min_7cf53 2 (some .int) 2 := ⟨q_764, q_129, q_765, by decide +kernel⟩
theorem cal_X0_canCut : CalV yX0_canCut cX0_canCut 2 (some .boolean) 1 := ⟨q_1178, q_1179, q_141, q_1180, by decide +kernel⟩
theorem cal_X0_canRaise : CalV yX0_canRaise cX0_canRaise 4 (some .boolean) 1 := ⟨q_1188, q_1189, q_141, q_1190, by decide +kernel⟩
theorem cal_X0_canSweep : CalV yX0_canSweep cX0_canSweep 1 (some .boolean) 0 := ⟨q_1079, q_1080, q_141, q_1081, by decide +kernel⟩
theorem cal_X0_doAgain : CalV yX0_doAgain cX0_doAgain 1 (some .boolean) 0 := ⟨q_1217, q_1218, q_141, q_1219, by decide +kernel⟩
theorem cal_X0_doNew : CalV yX0_doNew cX0_doNew 2 (some .boolean) 1 := ⟨q_1086, q_1087, q_141, q_1088, by decide +kernel⟩
theorem cal_X0_forget : CalV yX0_forget cX0_forget 1 none 0 := ⟨q_1017, q_1018, q_141, q_1019, by decide +kernel⟩
theorem cal_X0_init : CalI yX0_init cX0_init 4 3 := ⟨q_583, q_141, q_584, rfl, by decide +kernel⟩
theorem cal_X0_perform : CalV yX0_perform cX0_perform 8 none 1 := ⟨q_1093, q_24, q_141, q_1094, by decide +kernel⟩
theorem cal_X0_takeBack : CalV yX0_takeBack cX0_takeBack 1 (some .boolean) 0 := ⟨q_1197, q_1198, q_141, q_1199, by decide +kernel⟩
theorem cal_X10_build : CalV yX10_build cX10_build 2 none 1 := ⟨q_1100, q_1101, q_139, q_1102, by decide +kernel⟩
theorem cal_X10_init : CalI yX10_init cX10_init 2 1 := ⟨q_426, q_139, q_427, rfl, by decide +kernel⟩
theorem cal_X10_isHeavier : CalV yX10_isHeavier cX10_isHeavier 5 (some .boolean) 2 := ⟨q_1128, q_27, q_139, q_1129, by decide +kernel⟩
theorem cal_X10_join : CalV yX10_join cX10_join 5 none 0 := ⟨q_1121, q_26, q_139, q_1122, by decide +kernel⟩
theorem cal_X10_list : CalV yX10_list cX10_list 6 none 3 := ⟨q_1134, q_28, q_139, q_1135, by decide +kernel⟩
theorem cal_X10_measureHeights : CalV yX10_measureHeights cX10_measureHeights 4 none 0 := ⟨q_1142, q_29, q_139, q_1143, by decide +kernel⟩
theorem cal_X10_order : CalV yX10_order cX10_order 3 none 1 := ⟨q_1105, q_25, q_139, q_1106, by decide +kernel⟩
theorem cal_X11_about : CalV yX11_about cX11_about 3 (some .int) 1 := ⟨q_1544, q_1545, q_127, q_1546, by decide +kernel⟩
theorem cal_X11_above : CalV yX11_above cX11_above 3 (some .int) 2 := ⟨q_1318, q_1319, q_127, q_1320, by decide +kernel⟩
theorem cal_X11_area : CalV yX11_area cX11_area 2 (some .int) 1 := ⟨q_1439, q_1440, q_127, q_1441, by decide +kernel⟩
theorem cal_X11_ask : CalV yX11_ask cX11_ask 5 (some .int) 3 := ⟨q_1529, q_1530, q_127, q_1531, by decide +kernel⟩
theorem cal_X11_back : CalV yX11_back cX11_back 3 (some .int) 1 := ⟨q_1234, q_1235, q_127, q_1236, by decide +kernel⟩
theorem cal_X11_below : CalV yX11_below cX11_below 3 (some .int) 2 := ⟨q_1290, q_1291, q_127, q_1292, by decide +kernel⟩
theorem cal_X11_boxOf : CalV yX11_boxOf cX11_boxOf 2 (some (.object "StampMap$Store")) 1 := ⟨q_1226, q_35, q_127, q_1227, by decide +kernel⟩
theorem cal_X11_busiest : CalV yX11_busiest cX11_busiest 3 (some .int) 0 := ⟨q_1396, q_1397, q_127, q_1398, by decide +kernel⟩
theorem cal_X11_change : CalV yX11_change cX11_change 5 (some .int) 3 := ⟨q_1268, q_1269, q_127, q_1270, by decide +kernel⟩
theorem cal_X11_commonPart : CalS yX11_commonPart cX11_commonPart 6 (some .int) 2 := ⟨q_1342, q_127, q_1343, by decide +kernel⟩
theorem cal_X11_copies : CalV yX11_copies cX11_copies 2 (some .int) 1 := ⟨q_1370, q_1371, q_127, q_1372, by decide +kernel⟩
theorem cal_X11_countIn : CalV yX11_countIn cX11_countIn 1 (some .int) 0 := ⟨q_1170, q_33, q_127, q_1171, by decide +kernel⟩
theorem cal_X11_credit : CalV yX11_credit cX11_credit 4 (some .int) 0 := ⟨q_1387, q_1388, q_127, q_1389, by decide +kernel⟩
theorem cal_X11_crossed : CalV yX11_crossed cX11_crossed 3 (some .int) 2 := ⟨q_1345, q_1346, q_127, q_1347, by decide +kernel⟩
theorem cal_X11_cut : CalV yX11_cut cX11_cut 2 (some .int) 1 := ⟨q_1174, q_1175, q_127, q_1176, by decide +kernel⟩
theorem cal_X11_dearest : CalV yX11_dearest cX11_dearest 3 (some .int) 0 := ⟨q_1378, q_1379, q_127, q_1380, by decide +kernel⟩
theorem cal_X11_depth : CalV yX11_depth cX11_depth 6 (some .int) 2 := ⟨q_1331, q_1332, q_127, q_1333, by decide +kernel⟩
theorem cal_X11_end : CalV yX11_end cX11_end 2 (some .int) 1 := ⟨q_746, q_747, q_127, q_748, by decide +kernel⟩
theorem cal_X11_events : CalV yX11_events cX11_events 1 (some .int) 0 := ⟨q_1071, q_1072, q_127, q_1073, by decide +kernel⟩
theorem cal_X11_fault : CalV yX11_fault cX11_fault 2 (some .int) 1 := ⟨q_1028, q_1029, q_127, q_1030, by decide +kernel⟩
theorem cal_X11_feed : CalV yX11_feed cX11_feed 6 (some .int) 5 := ⟨q_733, q_734, q_127, q_735, by decide +kernel⟩
theorem cal_X11_feedNumber : CalV yX11_feedNumber cX11_feedNumber 3 none 1 := ⟨q_742, q_4, q_127, q_743, by decide +kernel⟩
theorem cal_X11_fits : CalV yX11_fits cX11_fits 3 (some .int) 2 := ⟨q_1504, q_1505, q_127, q_1506, by decide +kernel⟩
theorem cal_X11_gap : CalV yX11_gap cX11_gap 9 (some .int) 3 := ⟨q_1335, q_1336, q_127, q_1337, by decide +kernel⟩
theorem cal_X11_hidden : CalV yX11_hidden cX11_hidden 2 (some .int) 1 := ⟨q_1466, q_1467, q_127, q_1468, by decide +kernel⟩
theorem cal_X11_higher : CalV yX11_higher cX11_higher 4 (some .int) 3 := ⟨q_1052, q_1053, q_127, q_1054, by decide +kernel⟩
theorem cal_X11_highest : CalV yX11_highest cX11_highest 4 (some .int) 0 := ⟨q_1404, q_1405, q_127, q_1406, by decide +kernel⟩
theorem cal_X11_image : CalV yX11_image cX11_image 3 (some .int) 1 := ⟨q_1221, q_1222, q_127, q_1223, by decide +kernel⟩
theorem cal_X11_init : CalI yX11_init cX11_init 1 0 := ⟨q_150, q_127, q_151, rfl, by decide +kernel⟩
theorem cal_X11_largest : CalV yX11_largest cX11_largest 3 (some .int) 0 := ⟨q_1462, q_1463, q_127, q_1464, by decide +kernel⟩
theorem cal_X11_later : CalV yX11_later cX11_later 2 (some .int) 1 := ⟨q_1495, q_1496, q_127, q_1497, by decide +kernel⟩
theorem cal_X11_law : CalV yX11_law cX11_law 3 (some .int) 1 := ⟨q_1391, q_1392, q_127, q_1393, by decide +kernel⟩
theorem cal_X11_lies : CalV yX11_lies cX11_lies 2 (some .int) 1 := ⟨q_1286, q_1287, q_127, q_1288, by decide +kernel⟩
theorem cal_X11_map : CalV yX11_map cX11_map 1 (some .int) 0 := ⟨q_751, q_752, q_127, q_753, by decide +kernel⟩
theorem cal_X11_next : CalV yX11_next cX11_next 1 (some .int) 0 := ⟨q_1061, q_1062, q_127, q_1063, by decide +kernel⟩
theorem cal_X11_node : CalV yX11_node cX11_node 3 (some .int) 2 := ⟨q_1251, q_1252, q_127, q_1253, by decide +kernel⟩
theorem cal_X11_on : CalV yX11_on cX11_on 4 (some .int) 2 := ⟨q_1326, q_1327, q_127, q_1328, by decide +kernel⟩
theorem cal_X11_paid : CalV yX11_paid cX11_paid 2 (some .int) 0 := ⟨q_1382, q_1383, q_127, q_1384, by decide +kernel⟩
theorem cal_X11_raise : CalV yX11_raise cX11_raise 2 (some .int) 1 := ⟨q_1184, q_1185, q_127, q_1186, by decide +kernel⟩
theorem cal_X11_read : CalV yX11_read cX11_read 4 (some .int) 3 := ⟨q_1272, q_1273, q_127, q_1274, by decide +kernel⟩
theorem cal_X11_redo : CalV yX11_redo cX11_redo 1 (some .boolean) 0 := ⟨q_1213, q_1214, q_127, q_1215, by decide +kernel⟩
theorem cal_X11_row : CalV yX11_row cX11_row 2 (some .int) 1 := ⟨q_1277, q_1278, q_127, q_1279, by decide +kernel⟩
theorem cal_X11_same : CalV yX11_same cX11_same 6 (some .int) 4 := ⟨q_1349, q_1350, q_127, q_1351, by decide +kernel⟩
theorem cal_X11_seen : CalV yX11_seen cX11_seen 3 (some .int) 2 := ⟨q_1475, q_1476, q_127, q_1477, by decide +kernel⟩
theorem cal_X11_segment : CalV yX11_segment cX11_segment 4 (some .int) 2 := ⟨q_1032, q_1033, q_127, q_1034, by decide +kernel⟩
theorem cal_X11_shape : CalV yX11_shape cX11_shape 2 (some .int) 1 := ⟨q_1282, q_1283, q_127, q_1284, by decide +kernel⟩
theorem cal_X11_shared : CalV yX11_shared cX11_shared 6 (some .int) 2 := ⟨q_1357, q_1358, q_127, q_1359, by decide +kernel⟩
theorem cal_X11_sight : CalV yX11_sight cX11_sight 3 (some .int) 2 := ⟨q_1412, q_1413, q_127, q_1414, by decide +kernel⟩
theorem cal_X11_stays : CalV yX11_stays cX11_stays 4 (some .int) 1 := ⟨q_1408, q_1409, q_127, q_1410, by decide +kernel⟩
theorem cal_X11_sure : CalV yX11_sure cX11_sure 4 (some .int) 3 := ⟨q_1525, q_1526, q_127, q_1527, by decide +kernel⟩
theorem cal_X11_sweep : CalV yX11_sweep cX11_sweep 1 (some .int) 0 := ⟨q_1075, q_1076, q_127, q_1077, by decide +kernel⟩
theorem cal_X11_trapezes : CalV yX11_trapezes cX11_trapezes 1 (some .int) 0 := ⟨q_1420, q_1421, q_127, q_1422, by decide +kernel⟩
theorem cal_X11_undo : CalV yX11_undo cX11_undo 1 (some .boolean) 0 := ⟨q_1193, q_1194, q_127, q_1195, by decide +kernel⟩
theorem cal_X11_unlike : CalV yX11_unlike cX11_unlike 3 (some .int) 2 := ⟨q_1353, q_1354, q_127, q_1355, by decide +kernel⟩
theorem cal_X11_untell : CalV yX11_untell cX11_untell 2 (some .boolean) 1 := ⟨q_1485, q_1486, q_127, q_1487, by decide +kernel⟩
theorem cal_X11_version : CalV yX11_version cX11_version 3 (some .int) 2 := ⟨q_1238, q_1239, q_127, q_1240, by decide +kernel⟩
theorem cal_X11_weight : CalV yX11_weight cX11_weight 2 (some .int) 1 := ⟨q_1048, q_1049, q_127, q_1050, by decide +kernel⟩
theorem cal_X11_widest : CalV yX11_widest cX11_widest 3 (some .int) 0 := ⟨q_1400, q_1401, q_127, q_1402, by decide +kernel⟩
theorem cal_X11_written : CalV yX11_written cX11_written 1 (some .int) 0 := ⟨q_1362, q_1363, q_127, q_1364, by decide +kernel⟩
theorem cal_X12_about : CalV yX12_about cX12_about 2 (some .int) 1 := ⟨q_2393, q_2394, q_144, q_2395, by decide +kernel⟩
theorem cal_X12_above : CalV yX12_above cX12_above 3 (some .int) 2 := ⟨q_2191, q_2192, q_144, q_2193, by decide +kernel⟩
theorem cal_X12_aboveOf : CalV yX12_aboveOf cX12_aboveOf 6 (some .int) 3 := ⟨q_2200, q_113, q_144, q_2201, by decide +kernel⟩
theorem cal_X12_add : CalV yX12_add cX12_add 3 none 2 := ⟨q_1937, q_68, q_144, q_1938, by decide +kernel⟩
theorem cal_X12_area : CalV yX12_area cX12_area 2 (some .int) 1 := ⟨q_2318, q_2319, q_144, q_2320, by decide +kernel⟩
theorem cal_X12_ask : CalV yX12_ask cX12_ask 7 (some .int) 3 := ⟨q_2374, q_2375, q_144, q_2376, by decide +kernel⟩
theorem cal_X12_asked : CalV yX12_asked cX12_asked 1 (some .int) 0 := ⟨q_1933, q_67, q_144, q_1934, by decide +kernel⟩
theorem cal_X12_back : CalV yX12_back cX12_back 3 (some .int) 1 := ⟨q_2389, q_2390, q_144, q_2391, by decide +kernel⟩
theorem cal_X12_below : CalV yX12_below cX12_below 3 (some .int) 2 := ⟨q_2163, q_2164, q_144, q_2165, by decide +kernel⟩
theorem cal_X12_belowOf : CalV yX12_belowOf cX12_belowOf 6 (some .int) 3 := ⟨q_2188, q_111, q_144, q_2189, by decide +kernel⟩
theorem cal_X12_busiest : CalV yX12_busiest cX12_busiest 3 (some .int) 0 := ⟨q_2282, q_2283, q_144, q_2284, by decide +kernel⟩
theorem cal_X12_change : CalV yX12_change cX12_change 5 (some .int) 3 := ⟨q_2147, q_2148, q_144, q_2149, by decide +kernel⟩
theorem cal_X12_close : CalV yX12_close cX12_close 2 none 1 := ⟨q_1949, q_71, q_144, q_1950, by decide +kernel⟩
theorem cal_X12_copies : CalV yX12_copies cX12_copies 2 (some .int) 1 := ⟨q_2246, q_2247, q_144, q_2248, by decide +kernel⟩
theorem cal_X12_copiesOf : CalV yX12_copiesOf cX12_copiesOf 4 (some .int) 1 := ⟨q_2251, q_116, q_144, q_2252, by decide +kernel⟩
theorem cal_X12_costOf : CalV yX12_costOf cX12_costOf 2 (some .int) 1 := ⟨q_2120, q_100, q_144, q_2121, by decide +kernel⟩
theorem cal_X12_countUnit : CalV yX12_countUnit cX12_countUnit 1 none 0 := ⟨q_1929, q_66, q_144, q_1930, by decide +kernel⟩
theorem cal_X12_credit : CalV yX12_credit cX12_credit 3 (some .int) 0 := ⟨q_2266, q_2267, q_144, q_2268, by decide +kernel⟩
theorem cal_X12_crossed : CalV yX12_crossed cX12_crossed 3 (some .int) 2 := ⟨q_2218, q_2219, q_144, q_2220, by decide +kernel⟩
theorem cal_X12_crossedAt : CalV yX12_crossedAt cX12_crossedAt 6 (some .int) 2 := ⟨q_2223, q_114, q_144, q_2224, by decide +kernel⟩
theorem cal_X12_cut : CalV yX12_cut cX12_cut 2 (some .int) 1 := ⟨q_2087, q_2088, q_144, q_2089, by decide +kernel⟩
theorem cal_X12_cutNow : CalV yX12_cutNow cX12_cutNow 1 (some .int) 0 := ⟨q_2014, q_81, q_144, q_2015, by decide +kernel⟩
theorem cal_X12_dearest : CalV yX12_dearest cX12_dearest 3 (some .int) 0 := ⟨q_2258, q_2259, q_144, q_2260, by decide +kernel⟩
theorem cal_X12_depth : CalV yX12_depth cX12_depth 4 (some .int) 2 := ⟨q_2207, q_2208, q_144, q_2209, by decide +kernel⟩
theorem cal_X12_divisor : CalS yX12_divisor cX12_divisor 5 (some .int) 2 := ⟨q_2215, q_144, q_2216, by decide +kernel⟩
theorem cal_X12_doMeet : CalV yX12_doMeet cX12_doMeet 7 (some .boolean) 2 := ⟨q_1892, q_59, q_144, q_1893, by decide +kernel⟩
theorem cal_X12_done : CalS yX12_done cX12_done 3 (some .int) 3 := ⟨q_1963, q_144, q_1964, by decide +kernel⟩
theorem cal_X12_end : CalV yX12_end cX12_end 2 (some .int) 1 := ⟨q_1804, q_1805, q_144, q_1806, by decide +kernel⟩
theorem cal_X12_endOf : CalV yX12_endOf cX12_endOf 2 (some .int) 1 := ⟨q_2315, q_122, q_144, q_2316, by decide +kernel⟩
theorem cal_X12_events : CalV yX12_events cX12_events 1 (some .int) 0 := ⟨q_2338, q_2339, q_144, q_2340, by decide +kernel⟩
theorem cal_X12_farther : CalV yX12_farther cX12_farther 5 (some .int) 3 := ⟨q_1994, q_78, q_144, q_1995, by decide +kernel⟩
theorem cal_X12_fault : CalV yX12_fault cX12_fault 2 (some .int) 1 := ⟨q_1970, q_1971, q_144, q_1972, by decide +kernel⟩
theorem cal_X12_feed : CalV yX12_feed cX12_feed 6 (some .int) 5 := ⟨q_1796, q_1797, q_144, q_1798, by decide +kernel⟩
theorem cal_X12_fits : CalV yX12_fits cX12_fits 3 (some .int) 2 := ⟨q_2359, q_2360, q_144, q_2361, by decide +kernel⟩
theorem cal_X12_formula : CalV yX12_formula cX12_formula 3 none 0 := ⟨q_1906, q_61, q_144, q_1907, by decide +kernel⟩
theorem cal_X12_four : CalV yX12_four cX12_four 3 none 1 := ⟨q_1801, q_44, q_144, q_1802, by decide +kernel⟩
theorem cal_X12_gap : CalV yX12_gap cX12_gap 9 (some .int) 3 := ⟨q_2211, q_2212, q_144, q_2213, by decide +kernel⟩
theorem cal_X12_goOn : CalV yX12_goOn cX12_goOn 6 (some .int) 4 := ⟨q_2018, q_82, q_144, q_2019, by decide +kernel⟩
theorem cal_X12_greater : CalS yX12_greater cX12_greater 2 (some .int) 2 := ⟨q_1895, q_144, q_1896, by decide +kernel⟩
theorem cal_X12_has : CalS yX12_has cX12_has 2 (some .boolean) 2 := ⟨q_2041, q_144, q_2042, by decide +kernel⟩
theorem cal_X12_hasBracket : CalV yX12_hasBracket cX12_hasBracket 3 (some .boolean) 0 := ⟨q_1945, q_70, q_144, q_1946, by decide +kernel⟩
theorem cal_X12_hasRelation : CalV yX12_hasRelation cX12_hasRelation 2 (some .boolean) 0 := ⟨q_1953, q_72, q_144, q_1954, by decide +kernel⟩
theorem cal_X12_here : CalV yX12_here cX12_here 2 (some .int) 1 := ⟨q_1821, q_47, q_144, q_1822, by decide +kernel⟩
theorem cal_X12_hidden : CalV yX12_hidden cX12_hidden 8 (some .int) 1 := ⟨q_2330, q_2331, q_144, q_2332, by decide +kernel⟩
theorem cal_X12_highAt : CalV yX12_highAt cX12_highAt 2 (some .int) 1 := ⟨q_2295, q_120, q_144, q_2296, by decide +kernel⟩
theorem cal_X12_highBy : CalV yX12_highBy cX12_highBy 2 (some .int) 1 := ⟨q_2057, q_91, q_144, q_2058, by decide +kernel⟩
theorem cal_X12_higher : CalV yX12_higher cX12_higher 4 (some .int) 3 := ⟨q_1974, q_1975, q_144, q_1976, by decide +kernel⟩
theorem cal_X12_highest : CalV yX12_highest cX12_highest 3 (some .int) 0 := ⟨q_2290, q_2291, q_144, q_2292, by decide +kernel⟩
theorem cal_X12_image : CalV yX12_image cX12_image 3 (some .int) 1 := ⟨q_2382, q_2383, q_144, q_2384, by decide +kernel⟩
theorem cal_X12_init : CalI yX12_init cX12_init 1 0 := ⟨q_1550, q_144, q_1551, rfl, by decide +kernel⟩
theorem cal_X12_isBox : CalS yX12_isBox cX12_isBox 1 (some .boolean) 1 := ⟨q_2386, q_144, q_2387, by decide +kernel⟩
theorem cal_X12_isCopy : CalV yX12_isCopy cX12_isCopy 2 (some .boolean) 1 := ⟨q_2255, q_117, q_144, q_2256, by decide +kernel⟩
theorem cal_X12_isDigit : CalS yX12_isDigit cX12_isDigit 1 (some .boolean) 1 := ⟨q_1827, q_144, q_1828, by decide +kernel⟩
theorem cal_X12_isFull : CalV yX12_isFull cX12_isFull 1 (some .boolean) 0 := ⟨q_1925, q_65, q_144, q_1926, by decide +kernel⟩
theorem cal_X12_isHeavier : CalV yX12_isHeavier cX12_isHeavier 3 (some .boolean) 2 := ⟨q_2045, q_88, q_144, q_2046, by decide +kernel⟩
theorem cal_X12_isHeight : CalS yX12_isHeight cX12_isHeight 1 (some .boolean) 1 := ⟨q_2363, q_144, q_2364, by decide +kernel⟩
theorem cal_X12_isHigher : CalV yX12_isHigher cX12_isHigher 7 (some .boolean) 3 := ⟨q_1990, q_77, q_144, q_1991, by decide +kernel⟩
theorem cal_X12_isIn : CalS yX12_isIn cX12_isIn 3 (some .boolean) 3 := ⟨q_1982, q_144, q_1983, by decide +kernel⟩
theorem cal_X12_isLetter : CalS yX12_isLetter cX12_isLetter 1 (some .boolean) 1 := ⟨q_1824, q_144, q_1825, by decide +kernel⟩
theorem cal_X12_isName : CalV yX12_isName cX12_isName 1 (some .boolean) 0 := ⟨q_1847, q_51, q_144, q_1848, by decide +kernel⟩
theorem cal_X12_isNode : CalV yX12_isNode cX12_isNode 2 (some .boolean) 1 := ⟨q_2136, q_103, q_144, q_2137, by decide +kernel⟩
theorem cal_X12_isNow : CalV yX12_isNow cX12_isNow 2 (some .boolean) 1 := ⟨q_2092, q_98, q_144, q_2093, by decide +kernel⟩
theorem cal_X12_isOver : CalV yX12_isOver cX12_isOver 3 (some .boolean) 2 := ⟨q_1986, q_76, q_144, q_1987, by decide +kernel⟩
theorem cal_X12_isOwn : CalV yX12_isOwn cX12_isOwn 1 (some .boolean) 0 := ⟨q_1851, q_52, q_144, q_1852, by decide +kernel⟩
theorem cal_X12_isPoint : CalV yX12_isPoint cX12_isPoint 3 (some .boolean) 2 := ⟨q_2168, q_106, q_144, q_2169, by decide +kernel⟩
theorem cal_X12_isSegment : CalV yX12_isSegment cX12_isSegment 2 (some .boolean) 1 := ⟨q_1979, q_75, q_144, q_1980, by decide +kernel⟩
theorem cal_X12_isSign : CalS yX12_isSign cX12_isSign 1 (some .boolean) 1 := ⟨q_1830, q_144, q_1831, by decide +kernel⟩
theorem cal_X12_isSimCopied : CalV yX12_isSimCopied cX12_isSimCopied 8 (some .boolean) 3 := ⟨q_2275, q_118, q_144, q_2276, by decide +kernel⟩
theorem cal_X12_isStamp : CalV yX12_isStamp cX12_isStamp 2 (some .boolean) 1 := ⟨q_2116, q_99, q_144, q_2117, by decide +kernel⟩
theorem cal_X12_isSwept : CalV yX12_isSwept cX12_isSwept 2 (some .boolean) 1 := ⟨q_2172, q_107, q_144, q_2173, by decide +kernel⟩
theorem cal_X12_isThere : CalV yX12_isThere cX12_isThere 2 (some .boolean) 1 := ⟨q_2144, q_105, q_144, q_2145, by decide +kernel⟩
theorem cal_X12_isTold : CalV yX12_isTold cX12_isTold 3 (some .boolean) 0 := ⟨q_1872, q_54, q_144, q_1873, by decide +kernel⟩
theorem cal_X12_isWord : CalV yX12_isWord cX12_isWord 3 (some .boolean) 1 := ⟨q_1839, q_49, q_144, q_1840, by decide +kernel⟩
theorem cal_X12_largest : CalV yX12_largest cX12_largest 3 (some .int) 0 := ⟨q_2326, q_2327, q_144, q_2328, by decide +kernel⟩
theorem cal_X12_later : CalV yX12_later cX12_later 2 (some .int) 1 := ⟨q_2354, q_2355, q_144, q_2356, by decide +kernel⟩
theorem cal_X12_law : CalV yX12_law cX12_law 5 (some .int) 1 := ⟨q_2270, q_2271, q_144, q_2272, by decide +kernel⟩
theorem cal_X12_layAreas : CalV yX12_layAreas cX12_layAreas 5 none 0 := ⟨q_2323, q_123, q_144, q_2324, by decide +kernel⟩
theorem cal_X12_layEvents : CalV yX12_layEvents cX12_layEvents 4 none 0 := ⟨q_1967, q_74, q_144, q_1968, by decide +kernel⟩
theorem cal_X12_layFits : CalV yX12_layFits cX12_layFits 8 (some .int) 2 := ⟨q_2367, q_124, q_144, q_2368, by decide +kernel⟩
theorem cal_X12_layNode : CalV yX12_layNode cX12_layNode 8 none 2 := ⟨q_2061, q_92, q_144, q_2062, by decide +kernel⟩
theorem cal_X12_layOrders : CalV yX12_layOrders cX12_layOrders 5 none 0 := ⟨q_2049, q_89, q_144, q_2050, by decide +kernel⟩
theorem cal_X12_layRow : CalV yX12_layRow cX12_layRow 5 none 2 := ⟨q_2038, q_87, q_144, q_2039, by decide +kernel⟩
theorem cal_X12_layTree : CalV yX12_layTree cX12_layTree 5 none 1 := ⟨q_2030, q_85, q_144, q_2031, by decide +kernel⟩
theorem cal_X12_leftBy : CalV yX12_leftBy cX12_leftBy 5 (some .int) 2 := ⟨q_2379, q_125, q_144, q_2380, by decide +kernel⟩
theorem cal_X12_lesser : CalS yX12_lesser cX12_lesser 2 (some .int) 2 := ⟨q_1898, q_144, q_1899, by decide +kernel⟩
theorem cal_X12_lies : CalV yX12_lies cX12_lies 2 (some .int) 1 := ⟨q_2342, q_2343, q_144, q_2344, by decide +kernel⟩
theorem cal_X12_madeAt : CalV yX12_madeAt cX12_madeAt 2 (some .int) 1 := ⟨q_2124, q_101, q_144, q_2125, by decide +kernel⟩
theorem cal_X12_makeNode : CalV yX12_makeNode cX12_makeNode 6 none 4 := ⟨q_2077, q_96, q_144, q_2078, by decide +kernel⟩
theorem cal_X12_map : CalV yX12_map cX12_map 2 (some .int) 0 := ⟨q_1808, q_1809, q_144, q_1810, by decide +kernel⟩
theorem cal_X12_mayNot : CalV yX12_mayNot cX12_mayNot 1 (some .boolean) 0 := ⟨q_1914, q_63, q_144, q_1915, by decide +kernel⟩
theorem cal_X12_members : CalS yX12_members cX12_members 3 (some .int) 1 := ⟨q_2084, q_144, q_2085, by decide +kernel⟩
theorem cal_X12_nFarther : CalV yX12_nFarther cX12_nFarther 8 (some .int) 3 := ⟨q_1902, q_60, q_144, q_1903, by decide +kernel⟩
theorem cal_X12_next : CalV yX12_next cX12_next 1 (some .int) 0 := ⟨q_2334, q_2335, q_144, q_2336, by decide +kernel⟩
theorem cal_X12_nextEvent : CalV yX12_nextEvent cX12_nextEvent 1 (some .int) 0 := ⟨q_2176, q_108, q_144, q_2177, by decide +kernel⟩
theorem cal_X12_nextTo : CalV yX12_nextTo cX12_nextTo 6 (some .int) 3 := ⟨q_2307, q_121, q_144, q_2308, by decide +kernel⟩
theorem cal_X12_node : CalV yX12_node cX12_node 3 (some .int) 2 := ⟨q_2131, q_2132, q_144, q_2133, by decide +kernel⟩
theorem cal_X12_nodeMany : CalV yX12_nodeMany cX12_nodeMany 1 (some .int) 0 := ⟨q_2022, q_83, q_144, q_2023, by decide +kernel⟩
theorem cal_X12_nodeNowOf : CalV yX12_nodeNowOf cX12_nodeNowOf 2 (some .int) 1 := ⟨q_2065, q_93, q_144, q_2066, by decide +kernel⟩
theorem cal_X12_nodeOf : CalV yX12_nodeOf cX12_nodeOf 5 (some .int) 2 := ⟨q_2069, q_94, q_144, q_2070, by decide +kernel⟩
theorem cal_X12_numberHere : CalV yX12_numberHere cX12_numberHere 3 (some .int) 2 := ⟨q_1888, q_58, q_144, q_1889, by decide +kernel⟩
theorem cal_X12_on : CalV yX12_on cX12_on 4 (some .int) 2 := ⟨q_2203, q_2204, q_144, q_2205, by decide +kernel⟩
theorem cal_X12_openUp : CalV yX12_openUp cX12_openUp 2 none 1 := ⟨q_1921, q_64, q_144, q_1922, by decide +kernel⟩
theorem cal_X12_overOf : CalV yX12_overOf cX12_overOf 3 (some .int) 2 := ⟨q_2196, q_112, q_144, q_2197, by decide +kernel⟩
theorem cal_X12_paid : CalV yX12_paid cX12_paid 1 (some .int) 0 := ⟨q_2262, q_2263, q_144, q_2264, by decide +kernel⟩
theorem cal_X12_parentAt : CalV yX12_parentAt cX12_parentAt 2 (some .int) 1 := ⟨q_2140, q_104, q_144, q_2141, by decide +kernel⟩
theorem cal_X12_placeOf : CalV yX12_placeOf cX12_placeOf 2 (some .int) 1 := ⟨q_2034, q_86, q_144, q_2035, by decide +kernel⟩
theorem cal_X12_push : CalV yX12_push cX12_push 3 (some .int) 2 := ⟨q_2053, q_90, q_144, q_2054, by decide +kernel⟩
theorem cal_X12_raise : CalV yX12_raise cX12_raise 2 (some .int) 1 := ⟨q_2095, q_2096, q_144, q_2097, by decide +kernel⟩
theorem cal_X12_read : CalV yX12_read cX12_read 4 (some .int) 3 := ⟨q_2151, q_2152, q_144, q_2153, by decide +kernel⟩
theorem cal_X12_readAll : CalV yX12_readAll cX12_readAll 1 none 0 := ⟨q_1813, q_45, q_144, q_1814, by decide +kernel⟩
theorem cal_X12_readAt : CalV yX12_readAt cX12_readAt 6 (some .int) 3 := ⟨q_2073, q_95, q_144, q_2074, by decide +kernel⟩
theorem cal_X12_readLine : CalV yX12_readLine cX12_readLine 1 none 0 := ⟨q_1834, q_48, q_144, q_1835, by decide +kernel⟩
theorem cal_X12_readSegment : CalV yX12_readSegment cX12_readSegment 3 none 0 := ⟨q_1843, q_50, q_144, q_1844, by decide +kernel⟩
theorem cal_X12_redo : CalV yX12_redo cX12_redo 1 (some .boolean) 0 := ⟨q_2103, q_2104, q_144, q_2105, by decide +kernel⟩
theorem cal_X12_regionOf : CalV yX12_regionOf cX12_regionOf 3 (some .int) 2 := ⟨q_2180, q_109, q_144, q_2181, by decide +kernel⟩
theorem cal_X12_row : CalV yX12_row cX12_row 3 (some .int) 1 := ⟨q_2155, q_2156, q_144, q_2157, by decide +kernel⟩
theorem cal_X12_same : CalV yX12_same cX12_same 5 (some .int) 4 := ⟨q_2226, q_2227, q_144, q_2228, by decide +kernel⟩
theorem cal_X12_seen : CalV yX12_seen cX12_seen 3 (some .int) 2 := ⟨q_2346, q_2347, q_144, q_2348, by decide +kernel⟩
theorem cal_X12_segment : CalV yX12_segment cX12_segment 3 (some .int) 2 := ⟨q_2107, q_2108, q_144, q_2109, by decide +kernel⟩
theorem cal_X12_setOf : CalV yX12_setOf cX12_setOf 2 (some .int) 1 := ⟨q_2010, q_80, q_144, q_2011, by decide +kernel⟩
theorem cal_X12_shape : CalV yX12_shape cX12_shape 3 (some .int) 1 := ⟨q_2159, q_2160, q_144, q_2161, by decide +kernel⟩
theorem cal_X12_shared : CalV yX12_shared cX12_shared 5 (some .int) 2 := ⟨q_2234, q_2235, q_144, q_2236, by decide +kernel⟩
theorem cal_X12_sight : CalV yX12_sight cX12_sight 6 (some .int) 2 := ⟨q_2302, q_2303, q_144, q_2304, by decide +kernel⟩
theorem cal_X12_sign : CalV yX12_sign cX12_sign 1 (some .int) 0 := ⟨q_1941, q_69, q_144, q_1942, by decide +kernel⟩
theorem cal_X12_simNodeOf : CalV yX12_simNodeOf cX12_simNodeOf 2 (some .int) 1 := ⟨q_2279, q_119, q_144, q_2280, by decide +kernel⟩
theorem cal_X12_stampAt : CalV yX12_stampAt cX12_stampAt 4 (some .int) 1 := ⟨q_2184, q_110, q_144, q_2185, by decide +kernel⟩
theorem cal_X12_stays : CalV yX12_stays cX12_stays 4 (some .int) 1 := ⟨q_2298, q_2299, q_144, q_2300, by decide +kernel⟩
theorem cal_X12_sure : CalV yX12_sure cX12_sure 6 (some .int) 3 := ⟨q_2370, q_2371, q_144, q_2372, by decide +kernel⟩
theorem cal_X12_sweep : CalV yX12_sweep cX12_sweep 4 (some .int) 0 := ⟨q_2001, q_2002, q_144, q_2003, by decide +kernel⟩
theorem cal_X12_sweepsNow : CalV yX12_sweepsNow cX12_sweepsNow 1 (some .int) 0 := ⟨q_2006, q_79, q_144, q_2007, by decide +kernel⟩
theorem cal_X12_tight : CalS yX12_tight cX12_tight 1 (some .int) 1 := ⟨q_1917, q_144, q_1918, by decide +kernel⟩
theorem cal_X12_token : CalV yX12_token cX12_token 3 none 0 := ⟨q_1817, q_46, q_144, q_1818, by decide +kernel⟩
theorem cal_X12_told : CalV yX12_told cX12_told 5 (some .int) 3 := ⟨q_1876, q_55, q_144, q_1877, by decide +kernel⟩
theorem cal_X12_toldNumber : CalV yX12_toldNumber cX12_toldNumber 4 (some .int) 2 := ⟨q_1884, q_57, q_144, q_1885, by decide +kernel⟩
theorem cal_X12_trapezes : CalV yX12_trapezes cX12_trapezes 7 (some .int) 0 := ⟨q_2310, q_2311, q_144, q_2312, by decide +kernel⟩
theorem cal_X12_truth : CalS yX12_truth cX12_truth 1 (some .int) 1 := ⟨q_1960, q_144, q_1961, by decide +kernel⟩
theorem cal_X12_undo : CalV yX12_undo cX12_undo 1 (some .boolean) 0 := ⟨q_2099, q_2100, q_144, q_2101, by decide +kernel⟩
theorem cal_X12_unit : CalV yX12_unit cX12_unit 3 none 0 := ⟨q_1910, q_62, q_144, q_1911, by decide +kernel⟩
theorem cal_X12_unlike : CalV yX12_unlike cX12_unlike 3 (some .int) 2 := ⟨q_2230, q_2231, q_144, q_2232, by decide +kernel⟩
theorem cal_X12_untell : CalV yX12_untell cX12_untell 2 (some .boolean) 1 := ⟨q_2350, q_2351, q_144, q_2352, by decide +kernel⟩
theorem cal_X12_usedUpTo : CalV yX12_usedUpTo cX12_usedUpTo 5 (some .int) 2 := ⟨q_2026, q_84, q_144, q_2027, by decide +kernel⟩
theorem cal_X12_version : CalV yX12_version cX12_version 3 (some .int) 2 := ⟨q_2111, q_2112, q_144, q_2113, by decide +kernel⟩
theorem cal_X12_want : CalV yX12_want cX12_want 3 none 1 := ⟨q_1880, q_56, q_144, q_1881, by decide +kernel⟩
theorem cal_X12_weight : CalV yX12_weight cX12_weight 2 (some .int) 1 := ⟨q_1997, q_1998, q_144, q_1999, by decide +kernel⟩
theorem cal_X12_weightOf : CalV yX12_weightOf cX12_weightOf 5 (some .int) 1 := ⟨q_1957, q_73, q_144, q_1958, by decide +kernel⟩
theorem cal_X12_widest : CalV yX12_widest cX12_widest 3 (some .int) 0 := ⟨q_2286, q_2287, q_144, q_2288, by decide +kernel⟩
theorem cal_X12_writeSlot : CalV yX12_writeSlot cX12_writeSlot 6 none 4 := ⟨q_2081, q_97, q_144, q_2082, by decide +kernel⟩
theorem cal_X12_written : CalV yX12_written cX12_written 1 (some .int) 0 := ⟨q_2238, q_2239, q_144, q_2240, by decide +kernel⟩
theorem cal_X12_writtenAll : CalV yX12_writtenAll cX12_writtenAll 3 (some .int) 0 := ⟨q_2243, q_115, q_144, q_2244, by decide +kernel⟩
theorem cal_X12_writtenAt : CalV yX12_writtenAt cX12_writtenAt 5 (some .int) 1 := ⟨q_2128, q_102, q_144, q_2129, by decide +kernel⟩
theorem cal_X12_wrong : CalV yX12_wrong cX12_wrong 2 none 1 := ⟨q_1868, q_53, q_144, q_1869, by decide +kernel⟩
theorem cal_X1_add : CalV yX1_add cX1_add 2 none 1 := ⟨q_214, q_215, q_131, q_216, by decide +kernel⟩
theorem cal_X1_clear : CalV yX1_clear cX1_clear 1 none 0 := ⟨q_209, q_210, q_131, q_211, by decide +kernel⟩
theorem cal_X1_doStep : CalV yX1_doStep cX1_doStep 4 none 1 := ⟨q_979, q_20, q_131, q_980, by decide +kernel⟩
theorem cal_X1_init : CalI yX1_init cX1_init 1 0 := ⟨q_183, q_131, q_184, rfl, by decide +kernel⟩
theorem cal_X1_joined : CalS yX1_joined cX1_joined 3 (some .int) 3 := ⟨q_982, q_131, q_983, by decide +kernel⟩
theorem cal_X1_valueFor : CalV yX1_valueFor cX1_valueFor 8 (some .int) 5 := ⟨q_971, q_972, q_131, q_973, by decide +kernel⟩
theorem cal_X2_beginsUnit : CalS yX2_beginsUnit cX2_beginsUnit 2 (some .boolean) 1 := ⟨q_959, q_138, q_960, by decide +kernel⟩
theorem cal_X2_close : CalV yX2_close cX2_close 4 (some .int) 2 := ⟨q_929, q_15, q_138, q_930, by decide +kernel⟩
theorem cal_X2_init : CalI yX2_init cX2_init 2 1 := ⟨q_389, q_138, q_390, rfl, by decide +kernel⟩
theorem cal_X2_open : CalV yX2_open cX2_open 2 none 1 := ⟨q_956, q_18, q_138, q_957, by decide +kernel⟩
theorem cal_X2_rankOf : CalS yX2_rankOf cX2_rankOf 1 (some .int) 1 := ⟨q_925, q_138, q_926, by decide +kernel⟩
theorem cal_X2_readFormula : CalV yX2_readFormula cX2_readFormula 4 none 1 := ⟨q_915, q_916, q_138, q_917, by decide +kernel⟩
theorem cal_X2_readSign : CalV yX2_readSign cX2_readSign 5 (some .int) 1 := ⟨q_922, q_14, q_138, q_923, by decide +kernel⟩
theorem cal_X2_readUnit : CalV yX2_readUnit cX2_readUnit 4 (some .int) 2 := ⟨q_952, q_17, q_138, q_953, by decide +kernel⟩
theorem cal_X2_settle : CalV yX2_settle cX2_settle 5 none 2 := ⟨q_933, q_16, q_138, q_934, by decide +kernel⟩
theorem cal_X3_addName : CalV yX3_addName cX3_addName 1 none 0 := ⟨q_871, q_872, q_132, q_873, by decide +kernel⟩
theorem cal_X3_addWord : CalV yX3_addWord cX3_addWord 3 none 1 := ⟨q_335, q_0, q_132, q_336, by decide +kernel⟩
theorem cal_X3_fail : CalV yX3_fail cX3_fail 2 none 1 := ⟨q_867, q_868, q_132, q_869, by decide +kernel⟩
theorem cal_X3_failed : CalV yX3_failed cX3_failed 1 (some .boolean) 0 := ⟨q_883, q_884, q_132, q_885, by decide +kernel⟩
theorem cal_X3_init : CalI yX3_init cX3_init 6 1 := ⟨q_281, q_132, q_282, rfl, by decide +kernel⟩
theorem cal_X3_isBlank : CalS yX3_isBlank cX3_isBlank 1 (some .boolean) 1 := ⟨q_776, q_132, q_777, by decide +kernel⟩
theorem cal_X3_isDigit : CalS yX3_isDigit cX3_isDigit 1 (some .boolean) 1 := ⟨q_790, q_132, q_791, by decide +kernel⟩
theorem cal_X3_isLetter : CalS yX3_isLetter cX3_isLetter 1 (some .boolean) 1 := ⟨q_779, q_132, q_780, by decide +kernel⟩
theorem cal_X3_kindOfWord : CalV yX3_kindOfWord cX3_kindOfWord 2 (some .int) 0 := ⟨q_787, q_6, q_132, q_788, by decide +kernel⟩
theorem cal_X3_restart : CalV yX3_restart cX3_restart 1 none 0 := ⟨q_760, q_761, q_132, q_762, by decide +kernel⟩
theorem cal_X3_spell : CalS yX3_spell cX3_spell 3 (some .long) 2 := ⟨q_338, q_132, q_339, by decide +kernel⟩
theorem cal_X3_step : CalV yX3_step cX3_step 2 none 0 := ⟨q_767, q_768, q_132, q_769, by decide +kernel⟩
theorem cal_X3_stepNumber : CalV yX3_stepNumber cX3_stepNumber 2 none 0 := ⟨q_794, q_7, q_132, q_795, by decide +kernel⟩
theorem cal_X3_stepWord : CalV yX3_stepWord cX3_stepWord 1 none 0 := ⟨q_783, q_5, q_132, q_784, by decide +kernel⟩
theorem cal_X4_addSegment : CalV yX4_addSegment cX4_addSegment 5 none 4 := ⟨q_887, q_888, q_130, q_889, by decide +kernel⟩
theorem cal_X4_aheadOf : CalV yX4_aheadOf cX4_aheadOf 5 (some .int) 3 := ⟨q_908, q_909, q_130, q_910, by decide +kernel⟩
theorem cal_X4_ceilingOf : CalV yX4_ceilingOf cX4_ceilingOf 5 (some .int) 2 := ⟨q_1455, q_1456, q_130, q_1457, by decide +kernel⟩
theorem cal_X4_clear : CalV yX4_clear cX4_clear 1 none 0 := ⟨q_201, q_202, q_130, q_203, by decide +kernel⟩
theorem cal_X4_comparedAt : CalV yX4_comparedAt cX4_comparedAt 6 (some .int) 3 := ⟨q_905, q_13, q_130, q_906, by decide +kernel⟩
theorem cal_X4_count : CalV yX4_count cX4_count 1 (some .int) 0 := ⟨q_853, q_854, q_130, q_855, by decide +kernel⟩
theorem cal_X4_findLowerOnes : CalV yX4_findLowerOnes cX4_findLowerOnes 7 (some .int) 1 := ⟨q_987, q_21, q_130, q_988, by decide +kernel⟩
theorem cal_X4_has : CalV yX4_has cX4_has 2 (some .boolean) 1 := ⟨q_994, q_995, q_130, q_996, by decide +kernel⟩
theorem cal_X4_inBehind : CalV yX4_inBehind cX4_inBehind 5 (some .int) 2 := ⟨q_1096, q_1097, q_130, q_1098, by decide +kernel⟩
theorem cal_X4_init : CalI yX4_init cX4_init 1 0 := ⟨q_175, q_130, q_176, rfl, by decide +kernel⟩
theorem cal_X4_isEvent : CalV yX4_isEvent cX4_isEvent 3 (some .boolean) 1 := ⟨q_1003, q_23, q_130, q_1004, by decide +kernel⟩
theorem cal_X4_isHigher : CalV yX4_isHigher cX4_isHigher 3 (some .boolean) 2 := ⟨q_1057, q_1058, q_130, q_1059, by decide +kernel⟩
theorem cal_X4_isOver : CalV yX4_isOver cX4_isOver 3 (some .boolean) 2 := ⟨q_990, q_991, q_130, q_992, by decide +kernel⟩
theorem cal_X4_isSteeper : CalV yX4_isSteeper cX4_isSteeper 3 (some .boolean) 2 := ⟨q_999, q_22, q_130, q_1000, by decide +kernel⟩
theorem cal_X4_lastMeetsAnother : CalV yX4_lastMeetsAnother cX4_lastMeetsAnother 3 (some .boolean) 0 := ⟨q_892, q_893, q_130, q_894, by decide +kernel⟩
theorem cal_X4_meet : CalV yX4_meet cX4_meet 7 (some .boolean) 2 := ⟨q_898, q_12, q_130, q_899, by decide +kernel⟩
theorem cal_X4_regionOf : CalV yX4_regionOf cX4_regionOf 5 (some .int) 2 := ⟨q_1512, q_1513, q_130, q_1514, by decide +kernel⟩
theorem cal_X4_settle : CalV yX4_settle cX4_settle 2 none 0 := ⟨q_963, q_964, q_130, q_965, by decide +kernel⟩
theorem cal_X4_takeFrom : CalV yX4_takeFrom cX4_takeFrom 2 none 1 := ⟨q_1008, q_1009, q_130, q_1010, by decide +kernel⟩
theorem cal_X4_weigh : CalV yX4_weigh cX4_weigh 4 none 0 := ⟨q_968, q_19, q_130, q_969, by decide +kernel⟩
theorem cal_X5_expect : CalV yX5_expect cX5_expect 2 none 1 := ⟨q_876, q_10, q_137, q_877, by decide +kernel⟩
theorem cal_X5_init : CalI yX5_init cX5_init 3 2 := ⟨q_383, q_137, q_384, rfl, by decide +kernel⟩
theorem cal_X5_newName : CalV yX5_newName cX5_newName 1 none 0 := ⟨q_864, q_9, q_137, q_865, by decide +kernel⟩
theorem cal_X5_number : CalV yX5_number cX5_number 3 (some .int) 2 := ⟨q_880, q_11, q_137, q_881, by decide +kernel⟩
theorem cal_X5_readMap : CalV yX5_readMap cX5_readMap 3 none 0 := ⟨q_755, q_756, q_137, q_757, by decide +kernel⟩
theorem cal_X5_readSegment : CalV yX5_readSegment cX5_readSegment 5 none 0 := ⟨q_859, q_8, q_137, q_860, by decide +kernel⟩
theorem cal_X6_add : CalV yX6_add cX6_add 2 none 1 := ⟨q_218, q_219, q_128, q_220, by decide +kernel⟩
theorem cal_X6_addUnlessNone : CalV yX6_addUnlessNone cX6_addUnlessNone 2 none 1 := ⟨q_1137, q_1138, q_128, q_1139, by decide +kernel⟩
theorem cal_X6_at : CalV yX6_at cX6_at 2 (some .int) 1 := ⟨q_772, q_773, q_128, q_774, by decide +kernel⟩
theorem cal_X6_clear : CalV yX6_clear cX6_clear 1 none 0 := ⟨q_205, q_206, q_128, q_207, by decide +kernel⟩
theorem cal_X6_fill : CalV yX6_fill cX6_fill 4 none 2 := ⟨q_498, q_499, q_128, q_500, by decide +kernel⟩
theorem cal_X6_init : CalI yX6_init cX6_init 2 1 := ⟨q_158, q_128, q_159, rfl, by decide +kernel⟩
theorem cal_X6_keep : CalV yX6_keep cX6_keep 2 none 1 := ⟨q_490, q_491, q_128, q_492, by decide +kernel⟩
theorem cal_X6_last : CalV yX6_last cX6_last 1 (some .int) 0 := ⟨q_936, q_937, q_128, q_938, by decide +kernel⟩
theorem cal_X6_put : CalV yX6_put cX6_put 3 none 2 := ⟨q_1116, q_1117, q_128, q_1118, by decide +kernel⟩
theorem cal_X6_size : CalV yX6_size cX6_size 1 (some .int) 0 := ⟨q_737, q_738, q_128, q_739, by decide +kernel⟩
theorem cal_X6_takeFrom : CalV yX6_takeFrom cX6_takeFrom 3 none 1 := ⟨q_1012, q_1013, q_128, q_1014, by decide +kernel⟩
theorem cal_X6_takeLast : CalV yX6_takeLast cX6_takeLast 2 (some .int) 0 := ⟨q_941, q_942, q_128, q_943, by decide +kernel⟩
theorem cal_X7_adapt : CalV yX7_adapt cX7_adapt 10 (some .int) 4 := ⟨q_1151, q_30, q_140, q_1152, by decide +kernel⟩
theorem cal_X7_addVersion : CalV yX7_addVersion cX7_addVersion 7 none 6 := ⟨q_504, q_3, q_140, q_505, by decide +kernel⟩
theorem cal_X7_childOf : CalV yX7_childOf cX7_childOf 6 (some .int) 3 := ⟨q_1161, q_1162, q_140, q_1163, by decide +kernel⟩
theorem cal_X7_copiesOf : CalV yX7_copiesOf cX7_copiesOf 4 (some .int) 1 := ⟨q_1374, q_1375, q_140, q_1376, by decide +kernel⟩
theorem cal_X7_grow : CalV yX7_grow cX7_grow 12 none 6 := ⟨q_1146, q_1147, q_140, q_1148, by decide +kernel⟩
theorem cal_X7_hasNode : CalV yX7_hasNode cX7_hasNode 2 (some .boolean) 1 := ⟨q_1255, q_1256, q_140, q_1257, by decide +kernel⟩
theorem cal_X7_hasStamp : CalV yX7_hasStamp cX7_hasStamp 2 (some .boolean) 1 := ⟨q_1242, q_1243, q_140, q_1244, by decide +kernel⟩
theorem cal_X7_holderOf : CalV yX7_holderOf cX7_holderOf 4 (some .int) 2 := ⟨q_1209, q_1210, q_140, q_1211, by decide +kernel⟩
theorem cal_X7_init : CalI yX7_init cX7_init 1 0 := ⟨q_476, q_140, q_477, rfl, by decide +kernel⟩
theorem cal_X7_isIn : CalV yX7_isIn cX7_isIn 3 (some .boolean) 2 := ⟨q_1043, q_1044, q_140, q_1045, by decide +kernel⟩
theorem cal_X7_isThere : CalV yX7_isThere cX7_isThere 2 (some .boolean) 1 := ⟨q_1263, q_1264, q_140, q_1265, by decide +kernel⟩
theorem cal_X7_keepNodes : CalV yX7_keepNodes cX7_keepNodes 2 none 1 := ⟨q_495, q_2, q_140, q_496, by decide +kernel⟩
theorem cal_X7_keepVersions : CalV yX7_keepVersions cX7_keepVersions 2 none 1 := ⟨q_487, q_1, q_140, q_488, by decide +kernel⟩
theorem cal_X7_make : CalV yX7_make cX7_make 6 none 4 := ⟨q_1157, q_31, q_140, q_1158, by decide +kernel⟩
theorem cal_X7_newest : CalV yX7_newest cX7_newest 1 (some .int) 0 := ⟨q_1037, q_1038, q_140, q_1039, by decide +kernel⟩
theorem cal_X7_parentOf : CalV yX7_parentOf cX7_parentOf 5 (some .int) 1 := ⟨q_1259, q_1260, q_140, q_1261, by decide +kernel⟩
theorem cal_X7_restart : CalV yX7_restart cX7_restart 1 none 0 := ⟨q_482, q_483, q_140, q_484, by decide +kernel⟩
theorem cal_X7_shrink : CalV yX7_shrink cX7_shrink 4 none 0 := ⟨q_1201, q_1202, q_140, q_1203, by decide +kernel⟩
theorem cal_X7_slotsWritten : CalV yX7_slotsWritten cX7_slotsWritten 3 (some .int) 0 := ⟨q_1366, q_1367, q_140, q_1368, by decide +kernel⟩
theorem cal_X7_takeFrom : CalV yX7_takeFrom cX7_takeFrom 2 none 1 := ⟨q_1229, q_1230, q_140, q_1231, by decide +kernel⟩
theorem cal_X7_usedAhead : CalV yX7_usedAhead cX7_usedAhead 4 (some .int) 2 := ⟨q_1206, q_34, q_140, q_1207, by decide +kernel⟩
theorem cal_X7_write : CalV yX7_write cX7_write 5 none 3 := ⟨q_1166, q_32, q_140, q_1167, by decide +kernel⟩
theorem cal_X8_aboveOf : CalV yX8_aboveOf cX8_aboveOf 3 (some .int) 1 := ⟨q_1431, q_38, q_142, q_1432, by decide +kernel⟩
theorem cal_X8_countFartherUp : CalV yX8_countFartherUp cX8_countFartherUp 4 none 2 := ⟨q_1309, q_37, q_142, q_1310, by decide +kernel⟩
theorem cal_X8_countTrapezes : CalV yX8_countTrapezes cX8_countTrapezes 4 (some .int) 0 := ⟨q_1424, q_1425, q_142, q_1426, by decide +kernel⟩
theorem cal_X8_endStretch : CalV yX8_endStretch cX8_endStretch 6 (some .int) 3 := ⟨q_1435, q_39, q_142, q_1436, by decide +kernel⟩
theorem cal_X8_find : CalV yX8_find cX8_find 4 (some .boolean) 2 := ⟨q_1294, q_1295, q_142, q_1296, by decide +kernel⟩
theorem cal_X8_foundAbove : CalV yX8_foundAbove cX8_foundAbove 1 (some .int) 0 := ⟨q_1322, q_1323, q_142, q_1324, by decide +kernel⟩
theorem cal_X8_foundBelow : CalV yX8_foundBelow cX8_foundBelow 1 (some .int) 0 := ⟨q_1314, q_1315, q_142, q_1316, by decide +kernel⟩
theorem cal_X8_hide : CalV yX8_hide cX8_hide 3 none 0 := ⟨q_1471, q_1472, q_142, q_1473, by decide +kernel⟩
theorem cal_X8_init : CalI yX8_init cX8_init 4 3 := ⟨q_609, q_142, q_610, rfl, by decide +kernel⟩
theorem cal_X8_isSwept : CalV yX8_isSwept cX8_isSwept 3 (some .boolean) 1 := ⟨q_1298, q_1299, q_142, q_1300, by decide +kernel⟩
theorem cal_X8_measure : CalV yX8_measure cX8_measure 3 none 0 := ⟨q_1443, q_1444, q_142, q_1445, by decide +kernel⟩
theorem cal_X8_measureAt : CalV yX8_measureAt cX8_measureAt 7 none 1 := ⟨q_1452, q_41, q_142, q_1453, by decide +kernel⟩
theorem cal_X8_neighbours : CalV yX8_neighbours cX8_neighbours 7 (some .int) 2 := ⟨q_1416, q_1417, q_142, q_1418, by decide +kernel⟩
theorem cal_X8_nextEvent : CalV yX8_nextEvent cX8_nextEvent 1 (some .int) 0 := ⟨q_1065, q_1066, q_142, q_1067, by decide +kernel⟩
theorem cal_X8_show : CalV yX8_show cX8_show 2 none 1 := ⟨q_1246, q_1247, q_142, q_1248, by decide +kernel⟩
theorem cal_X8_showUnlessShown : CalV yX8_showUnlessShown cX8_showUnlessShown 3 (some .int) 2 := ⟨q_1448, q_40, q_142, q_1449, by decide +kernel⟩
theorem cal_X8_stampOf : CalV yX8_stampOf cX8_stampOf 3 (some .int) 1 := ⟨q_1304, q_36, q_142, q_1305, by decide +kernel⟩
theorem cal_X9_agrees : CalV yX9_agrees cX9_agrees 5 (some .boolean) 2 := ⟨q_1518, q_42, q_143, q_1519, by decide +kernel⟩
theorem cal_X9_bestQuestion : CalV yX9_bestQuestion cX9_bestQuestion 5 (some .int) 0 := ⟨q_1533, q_1534, q_143, q_1535, by decide +kernel⟩
theorem cal_X9_counts : CalV yX9_counts cX9_counts 4 (some .boolean) 2 := ⟨q_1522, q_43, q_143, q_1523, by decide +kernel⟩
theorem cal_X9_forget : CalV yX9_forget cX9_forget 1 none 0 := ⟨q_1022, q_1023, q_143, q_1024, by decide +kernel⟩
theorem cal_X9_gather : CalV yX9_gather cX9_gather 5 (some .boolean) 2 := ⟨q_1508, q_1509, q_143, q_1510, by decide +kernel⟩
theorem cal_X9_goOn : CalV yX9_goOn cX9_goOn 2 (some .int) 1 := ⟨q_1499, q_1500, q_143, q_1501, by decide +kernel⟩
theorem cal_X9_init : CalI yX9_init cX9_init 2 1 := ⟨q_653, q_143, q_654, rfl, by decide +kernel⟩
theorem cal_X9_leftBy : CalV yX9_leftBy cX9_leftBy 4 (some .int) 1 := ⟨q_1538, q_1539, q_143, q_1540, by decide +kernel⟩
theorem cal_X9_takeBack : CalV yX9_takeBack cX9_takeBack 2 (some .boolean) 1 := ⟨q_1489, q_1490, q_143, q_1491, by decide +kernel⟩
theorem cal_X9_tell : CalV yX9_tell cX9_tell 3 (some .int) 2 := ⟨q_1479, q_1480, q_143, q_1481, by decide +kernel⟩
