/-! done: a call of the class under a catch (by program). -/
theorem dL_done_0 : decode cL_done 0 = .ok (.iload_n 1, 1) := by decide +kernel
theorem dL_done_1 : decode cL_done 1 = .ok (.tableswitch 377 0 28 #[131, 142, 153, 160, 166, 173, 182, 188, 194, 201, 208, 217, 226, 237, 243, 252, 261, 267, 281, 288, 294, 301, 310, 319, 334, 343, 361, 367, 372], 131) := by decide +kernel
theorem dL_done_132 : decode cL_done 132 = .ok (.aload_n 0, 1) := by decide +kernel
theorem dL_done_133 : decode cL_done 133 = .ok (.iload_n 2, 1) := by decide +kernel
theorem dL_done_134 : decode cL_done 134 = .ok (.iload_n 3, 1) := by decide +kernel
theorem dL_done_135 : decode cL_done 135 = .ok (.iload 4, 2) := by decide +kernel
theorem dL_done_137 : decode cL_done 137 = .ok (.iload 5, 2) := by decide +kernel
theorem dL_done_139 : decode cL_done 139 = .ok (.invokevirtual 14, 3) := by decide +kernel
theorem dL_done_142 : decode cL_done 142 = .ok (.ireturn, 1) := by decide +kernel
theorem dL_done_143 : decode cL_done 143 = .ok (.aload_n 0, 1) := by decide +kernel
theorem dL_done_144 : decode cL_done 144 = .ok (.iload_n 2, 1) := by decide +kernel
theorem dL_done_145 : decode cL_done 145 = .ok (.iload_n 3, 1) := by decide +kernel
theorem dL_done_146 : decode cL_done 146 = .ok (.iload 4, 2) := by decide +kernel
theorem dL_done_148 : decode cL_done 148 = .ok (.iload 5, 2) := by decide +kernel
theorem dL_done_150 : decode cL_done 150 = .ok (.invokevirtual 20, 3) := by decide +kernel
theorem dL_done_153 : decode cL_done 153 = .ok (.ireturn, 1) := by decide +kernel
theorem dL_done_154 : decode cL_done 154 = .ok (.aload_n 0, 1) := by decide +kernel
theorem dL_done_155 : decode cL_done 155 = .ok (.iload_n 2, 1) := by decide +kernel
theorem dL_done_156 : decode cL_done 156 = .ok (.iload_n 3, 1) := by decide +kernel
theorem dL_done_157 : decode cL_done 157 = .ok (.invokevirtual 23, 3) := by decide +kernel
theorem dL_done_160 : decode cL_done 160 = .ok (.ireturn, 1) := by decide +kernel
theorem dL_done_161 : decode cL_done 161 = .ok (.aload_n 0, 1) := by decide +kernel
theorem dL_done_162 : decode cL_done 162 = .ok (.iload_n 2, 1) := by decide +kernel
theorem dL_done_163 : decode cL_done 163 = .ok (.invokevirtual 27, 3) := by decide +kernel
theorem dL_done_166 : decode cL_done 166 = .ok (.ireturn, 1) := by decide +kernel
theorem dL_done_167 : decode cL_done 167 = .ok (.aload_n 0, 1) := by decide +kernel
theorem dL_done_168 : decode cL_done 168 = .ok (.iload_n 2, 1) := by decide +kernel
theorem dL_done_169 : decode cL_done 169 = .ok (.iload_n 3, 1) := by decide +kernel
theorem dL_done_170 : decode cL_done 170 = .ok (.invokevirtual 31, 3) := by decide +kernel
theorem dL_done_173 : decode cL_done 173 = .ok (.ireturn, 1) := by decide +kernel
theorem dL_done_174 : decode cL_done 174 = .ok (.aload_n 0, 1) := by decide +kernel
theorem dL_done_175 : decode cL_done 175 = .ok (.iload_n 2, 1) := by decide +kernel
theorem dL_done_176 : decode cL_done 176 = .ok (.iload_n 3, 1) := by decide +kernel
theorem dL_done_177 : decode cL_done 177 = .ok (.iload 4, 2) := by decide +kernel
theorem dL_done_179 : decode cL_done 179 = .ok (.invokevirtual 34, 3) := by decide +kernel
theorem dL_done_182 : decode cL_done 182 = .ok (.ireturn, 1) := by decide +kernel
theorem dL_done_183 : decode cL_done 183 = .ok (.aload_n 0, 1) := by decide +kernel
theorem dL_done_184 : decode cL_done 184 = .ok (.iload_n 2, 1) := by decide +kernel
theorem dL_done_185 : decode cL_done 185 = .ok (.invokevirtual 38, 3) := by decide +kernel
theorem dL_done_188 : decode cL_done 188 = .ok (.ireturn, 1) := by decide +kernel
theorem dL_done_189 : decode cL_done 189 = .ok (.aload_n 0, 1) := by decide +kernel
theorem dL_done_190 : decode cL_done 190 = .ok (.iload_n 2, 1) := by decide +kernel
theorem dL_done_191 : decode cL_done 191 = .ok (.invokevirtual 41, 3) := by decide +kernel
theorem dL_done_194 : decode cL_done 194 = .ok (.ireturn, 1) := by decide +kernel
theorem dL_done_195 : decode cL_done 195 = .ok (.aload_n 0, 1) := by decide +kernel
theorem dL_done_196 : decode cL_done 196 = .ok (.iload_n 2, 1) := by decide +kernel
theorem dL_done_197 : decode cL_done 197 = .ok (.iload_n 3, 1) := by decide +kernel
theorem dL_done_198 : decode cL_done 198 = .ok (.invokevirtual 44, 3) := by decide +kernel
theorem dL_done_201 : decode cL_done 201 = .ok (.ireturn, 1) := by decide +kernel
theorem dL_done_202 : decode cL_done 202 = .ok (.aload_n 0, 1) := by decide +kernel
theorem dL_done_203 : decode cL_done 203 = .ok (.iload_n 2, 1) := by decide +kernel
theorem dL_done_204 : decode cL_done 204 = .ok (.iload_n 3, 1) := by decide +kernel
theorem dL_done_205 : decode cL_done 205 = .ok (.invokevirtual 47, 3) := by decide +kernel
theorem dL_done_208 : decode cL_done 208 = .ok (.ireturn, 1) := by decide +kernel
theorem dL_done_209 : decode cL_done 209 = .ok (.aload_n 0, 1) := by decide +kernel
theorem dL_done_210 : decode cL_done 210 = .ok (.iload_n 2, 1) := by decide +kernel
theorem dL_done_211 : decode cL_done 211 = .ok (.iload_n 3, 1) := by decide +kernel
theorem dL_done_212 : decode cL_done 212 = .ok (.iload 4, 2) := by decide +kernel
theorem dL_done_214 : decode cL_done 214 = .ok (.invokevirtual 50, 3) := by decide +kernel
theorem dL_done_217 : decode cL_done 217 = .ok (.ireturn, 1) := by decide +kernel
theorem dL_done_218 : decode cL_done 218 = .ok (.aload_n 0, 1) := by decide +kernel
theorem dL_done_219 : decode cL_done 219 = .ok (.iload_n 2, 1) := by decide +kernel
theorem dL_done_220 : decode cL_done 220 = .ok (.iload_n 3, 1) := by decide +kernel
theorem dL_done_221 : decode cL_done 221 = .ok (.iload 4, 2) := by decide +kernel
theorem dL_done_223 : decode cL_done 223 = .ok (.invokevirtual 53, 3) := by decide +kernel
theorem dL_done_226 : decode cL_done 226 = .ok (.ireturn, 1) := by decide +kernel
theorem dL_done_227 : decode cL_done 227 = .ok (.aload_n 0, 1) := by decide +kernel
theorem dL_done_228 : decode cL_done 228 = .ok (.iload_n 2, 1) := by decide +kernel
theorem dL_done_229 : decode cL_done 229 = .ok (.iload_n 3, 1) := by decide +kernel
theorem dL_done_230 : decode cL_done 230 = .ok (.iload 4, 2) := by decide +kernel
theorem dL_done_232 : decode cL_done 232 = .ok (.iload 5, 2) := by decide +kernel
theorem dL_done_234 : decode cL_done 234 = .ok (.invokevirtual 56, 3) := by decide +kernel
theorem dL_done_237 : decode cL_done 237 = .ok (.ireturn, 1) := by decide +kernel
theorem dL_done_238 : decode cL_done 238 = .ok (.aload_n 0, 1) := by decide +kernel
theorem dL_done_239 : decode cL_done 239 = .ok (.iload_n 2, 1) := by decide +kernel
theorem dL_done_240 : decode cL_done 240 = .ok (.invokevirtual 59, 3) := by decide +kernel
theorem dL_done_243 : decode cL_done 243 = .ok (.ireturn, 1) := by decide +kernel
theorem dL_done_244 : decode cL_done 244 = .ok (.aload_n 0, 1) := by decide +kernel
theorem dL_done_245 : decode cL_done 245 = .ok (.iload_n 2, 1) := by decide +kernel
theorem dL_done_246 : decode cL_done 246 = .ok (.iload_n 3, 1) := by decide +kernel
theorem dL_done_247 : decode cL_done 247 = .ok (.iload 4, 2) := by decide +kernel
theorem dL_done_249 : decode cL_done 249 = .ok (.invokevirtual 62, 3) := by decide +kernel
theorem dL_done_252 : decode cL_done 252 = .ok (.ireturn, 1) := by decide +kernel
theorem dL_done_253 : decode cL_done 253 = .ok (.aload_n 0, 1) := by decide +kernel
theorem dL_done_254 : decode cL_done 254 = .ok (.iload_n 2, 1) := by decide +kernel
theorem dL_done_255 : decode cL_done 255 = .ok (.iload_n 3, 1) := by decide +kernel
theorem dL_done_256 : decode cL_done 256 = .ok (.iload 4, 2) := by decide +kernel
theorem dL_done_258 : decode cL_done 258 = .ok (.invokevirtual 65, 3) := by decide +kernel
theorem dL_done_261 : decode cL_done 261 = .ok (.ireturn, 1) := by decide +kernel
theorem dL_done_262 : decode cL_done 262 = .ok (.aload_n 0, 1) := by decide +kernel
theorem dL_done_263 : decode cL_done 263 = .ok (.iload_n 2, 1) := by decide +kernel
theorem dL_done_264 : decode cL_done 264 = .ok (.invokevirtual 68, 3) := by decide +kernel
theorem dL_done_267 : decode cL_done 267 = .ok (.ireturn, 1) := by decide +kernel
theorem dL_done_268 : decode cL_done 268 = .ok (.aload_n 0, 1) := by decide +kernel
theorem dL_done_269 : decode cL_done 269 = .ok (.iload_n 2, 1) := by decide +kernel
theorem dL_done_270 : decode cL_done 270 = .ok (.invokevirtual 71, 3) := by decide +kernel
theorem dL_done_273 : decode cL_done 273 = .ok (.ifCond .eq 7, 3) := by decide +kernel
theorem dL_done_276 : decode cL_done 276 = .ok (.iconst 1, 1) := by decide +kernel
theorem dL_done_277 : decode cL_done 277 = .ok (.goto 4, 3) := by decide +kernel
theorem dL_done_280 : decode cL_done 280 = .ok (.iconst 0, 1) := by decide +kernel
theorem dL_done_281 : decode cL_done 281 = .ok (.ireturn, 1) := by decide +kernel
theorem dL_done_282 : decode cL_done 282 = .ok (.aload_n 0, 1) := by decide +kernel
theorem dL_done_283 : decode cL_done 283 = .ok (.iload_n 2, 1) := by decide +kernel
theorem dL_done_284 : decode cL_done 284 = .ok (.iload_n 3, 1) := by decide +kernel
theorem dL_done_285 : decode cL_done 285 = .ok (.invokevirtual 75, 3) := by decide +kernel
theorem dL_done_288 : decode cL_done 288 = .ok (.ireturn, 1) := by decide +kernel
theorem dL_done_289 : decode cL_done 289 = .ok (.aload_n 0, 1) := by decide +kernel
theorem dL_done_290 : decode cL_done 290 = .ok (.iload_n 2, 1) := by decide +kernel
theorem dL_done_291 : decode cL_done 291 = .ok (.invokevirtual 78, 3) := by decide +kernel
theorem dL_done_294 : decode cL_done 294 = .ok (.ireturn, 1) := by decide +kernel
theorem dL_done_295 : decode cL_done 295 = .ok (.aload_n 0, 1) := by decide +kernel
theorem dL_done_296 : decode cL_done 296 = .ok (.iload_n 2, 1) := by decide +kernel
theorem dL_done_297 : decode cL_done 297 = .ok (.iload_n 3, 1) := by decide +kernel
theorem dL_done_298 : decode cL_done 298 = .ok (.invokevirtual 81, 3) := by decide +kernel
theorem dL_done_301 : decode cL_done 301 = .ok (.ireturn, 1) := by decide +kernel
theorem dL_done_302 : decode cL_done 302 = .ok (.aload_n 0, 1) := by decide +kernel
theorem dL_done_303 : decode cL_done 303 = .ok (.iload_n 2, 1) := by decide +kernel
theorem dL_done_304 : decode cL_done 304 = .ok (.iload_n 3, 1) := by decide +kernel
theorem dL_done_305 : decode cL_done 305 = .ok (.iload 4, 2) := by decide +kernel
theorem dL_done_307 : decode cL_done 307 = .ok (.invokevirtual 84, 3) := by decide +kernel
theorem dL_done_310 : decode cL_done 310 = .ok (.ireturn, 1) := by decide +kernel
theorem dL_done_311 : decode cL_done 311 = .ok (.aload_n 0, 1) := by decide +kernel
theorem dL_done_312 : decode cL_done 312 = .ok (.iload_n 2, 1) := by decide +kernel
theorem dL_done_313 : decode cL_done 313 = .ok (.iload_n 3, 1) := by decide +kernel
theorem dL_done_314 : decode cL_done 314 = .ok (.iload 4, 2) := by decide +kernel
theorem dL_done_316 : decode cL_done 316 = .ok (.invokevirtual 87, 3) := by decide +kernel
theorem dL_done_319 : decode cL_done 319 = .ok (.ireturn, 1) := by decide +kernel
theorem dL_done_320 : decode cL_done 320 = .ok (.aload_n 0, 1) := by decide +kernel
theorem dL_done_321 : decode cL_done 321 = .ok (.iload_n 2, 1) := by decide +kernel
theorem dL_done_322 : decode cL_done 322 = .ok (.iconst 1, 1) := by decide +kernel
theorem dL_done_323 : decode cL_done 323 = .ok (.if_icmp .ne 7, 3) := by decide +kernel
theorem dL_done_326 : decode cL_done 326 = .ok (.iconst 1, 1) := by decide +kernel
theorem dL_done_327 : decode cL_done 327 = .ok (.goto 4, 3) := by decide +kernel
theorem dL_done_330 : decode cL_done 330 = .ok (.iconst 0, 1) := by decide +kernel
theorem dL_done_331 : decode cL_done 331 = .ok (.invokevirtual 90, 3) := by decide +kernel
theorem dL_done_334 : decode cL_done 334 = .ok (.ireturn, 1) := by decide +kernel
theorem dL_done_335 : decode cL_done 335 = .ok (.aload_n 0, 1) := by decide +kernel
theorem dL_done_336 : decode cL_done 336 = .ok (.iload_n 2, 1) := by decide +kernel
theorem dL_done_337 : decode cL_done 337 = .ok (.iload_n 3, 1) := by decide +kernel
theorem dL_done_338 : decode cL_done 338 = .ok (.iload 4, 2) := by decide +kernel
theorem dL_done_340 : decode cL_done 340 = .ok (.invokevirtual 94, 3) := by decide +kernel
theorem dL_done_343 : decode cL_done 343 = .ok (.ireturn, 1) := by decide +kernel
theorem dL_done_344 : decode cL_done 344 = .ok (.aload_n 0, 1) := by decide +kernel
theorem dL_done_345 : decode cL_done 345 = .ok (.iload_n 2, 1) := by decide +kernel
theorem dL_done_346 : decode cL_done 346 = .ok (.iload_n 3, 1) := by decide +kernel
theorem dL_done_347 : decode cL_done 347 = .ok (.iload 4, 2) := by decide +kernel
theorem dL_done_349 : decode cL_done 349 = .ok (.iconst 1, 1) := by decide +kernel
theorem dL_done_350 : decode cL_done 350 = .ok (.if_icmp .ne 7, 3) := by decide +kernel
theorem dL_done_353 : decode cL_done 353 = .ok (.iconst 1, 1) := by decide +kernel
theorem dL_done_354 : decode cL_done 354 = .ok (.goto 4, 3) := by decide +kernel
theorem dL_done_357 : decode cL_done 357 = .ok (.iconst 0, 1) := by decide +kernel
theorem dL_done_358 : decode cL_done 358 = .ok (.invokevirtual 97, 3) := by decide +kernel
theorem dL_done_361 : decode cL_done 361 = .ok (.ireturn, 1) := by decide +kernel
theorem dL_done_362 : decode cL_done 362 = .ok (.aload_n 0, 1) := by decide +kernel
theorem dL_done_363 : decode cL_done 363 = .ok (.iload_n 2, 1) := by decide +kernel
theorem dL_done_364 : decode cL_done 364 = .ok (.invokevirtual 101, 3) := by decide +kernel
theorem dL_done_367 : decode cL_done 367 = .ok (.ireturn, 1) := by decide +kernel
theorem dL_done_368 : decode cL_done 368 = .ok (.aload_n 0, 1) := by decide +kernel
theorem dL_done_369 : decode cL_done 369 = .ok (.invokevirtual 104, 3) := by decide +kernel
theorem dL_done_372 : decode cL_done 372 = .ok (.ireturn, 1) := by decide +kernel
theorem dL_done_373 : decode cL_done 373 = .ok (.aload_n 0, 1) := by decide +kernel
theorem dL_done_374 : decode cL_done 374 = .ok (.invokevirtual 108, 3) := by decide +kernel
theorem dL_done_377 : decode cL_done 377 = .ok (.ireturn, 1) := by decide +kernel
theorem dL_done_378 : decode cL_done 378 = .ok (.aload_n 0, 1) := by decide +kernel
theorem dL_done_379 : decode cL_done 379 = .ok (.invokevirtual 111, 3) := by decide +kernel
theorem dL_done_382 : decode cL_done 382 = .ok (.ireturn, 1) := by decide +kernel
theorem dL_done_383 : decode cL_done 383 = .ok (.astore 6, 2) := by decide +kernel
theorem dL_done_385 : decode cL_done 385 = .ok (.ldc 116, 2) := by decide +kernel
theorem dL_done_387 : decode cL_done 387 = .ok (.ireturn, 1) := by decide +kernel
theorem dL_done_388 : decode cL_done 388 = .ok (.astore 6, 2) := by decide +kernel
theorem dL_done_390 : decode cL_done 390 = .ok (.ldc 119, 2) := by decide +kernel
theorem dL_done_392 : decode cL_done 392 = .ok (.ireturn, 1) := by decide +kernel
theorem dL_done_393 : decode cL_done 393 = .ok (.astore 6, 2) := by decide +kernel
theorem dL_done_395 : decode cL_done 395 = .ok (.ldc 122, 2) := by decide +kernel
theorem dL_done_397 : decode cL_done 397 = .ok (.ireturn, 1) := by decide +kernel
theorem dL_done_398 : decode cL_done 398 = .ok (.astore 6, 2) := by decide +kernel
theorem dL_done_400 : decode cL_done 400 = .ok (.ldc 125, 2) := by decide +kernel
theorem dL_done_402 : decode cL_done 402 = .ok (.ireturn, 1) := by decide +kernel
def hhD : List (Nat × Nat × Nat × Nat) := [(0, 142, 383, 114), (143, 153, 383, 114), (154, 160, 383, 114), (161, 166, 383, 114), (167, 173, 383, 114), (174, 182, 383, 114), (183, 188, 383, 114), (189, 194, 383, 114), (195, 201, 383, 114), (202, 208, 383, 114), (209, 217, 383, 114), (218, 226, 383, 114), (227, 237, 383, 114), (238, 243, 383, 114), (244, 252, 383, 114), (253, 261, 383, 114), (262, 267, 383, 114), (268, 281, 383, 114), (282, 288, 383, 114), (289, 294, 383, 114), (295, 301, 383, 114), (302, 310, 383, 114), (311, 319, 383, 114), (320, 334, 383, 114), (335, 343, 383, 114), (344, 361, 383, 114), (362, 367, 383, 114), (368, 372, 383, 114), (373, 377, 383, 114), (378, 382, 383, 114), (0, 142, 388, 117), (143, 153, 388, 117), (154, 160, 388, 117), (161, 166, 388, 117), (167, 173, 388, 117), (174, 182, 388, 117), (183, 188, 388, 117), (189, 194, 388, 117), (195, 201, 388, 117), (202, 208, 388, 117), (209, 217, 388, 117), (218, 226, 388, 117), (227, 237, 388, 117), (238, 243, 388, 117), (244, 252, 388, 117), (253, 261, 388, 117), (262, 267, 388, 117), (268, 281, 388, 117), (282, 288, 388, 117), (289, 294, 388, 117), (295, 301, 388, 117), (302, 310, 388, 117), (311, 319, 388, 117), (320, 334, 388, 117), (335, 343, 388, 117), (344, 361, 388, 117), (362, 367, 388, 117), (368, 372, 388, 117), (373, 377, 388, 117), (378, 382, 388, 117), (0, 142, 393, 120), (143, 153, 393, 120), (154, 160, 393, 120), (161, 166, 393, 120), (167, 173, 393, 120), (174, 182, 393, 120), (183, 188, 393, 120), (189, 194, 393, 120), (195, 201, 393, 120), (202, 208, 393, 120), (209, 217, 393, 120), (218, 226, 393, 120), (227, 237, 393, 120), (238, 243, 393, 120), (244, 252, 393, 120), (253, 261, 393, 120), (262, 267, 393, 120), (268, 281, 393, 120), (282, 288, 393, 120), (289, 294, 393, 120), (295, 301, 393, 120), (302, 310, 393, 120), (311, 319, 393, 120), (320, 334, 393, 120), (335, 343, 393, 120), (344, 361, 393, 120), (362, 367, 393, 120), (368, 372, 393, 120), (373, 377, 393, 120), (378, 382, 393, 120), (0, 142, 398, 123), (143, 153, 398, 123), (154, 160, 398, 123), (161, 166, 398, 123), (167, 173, 398, 123), (174, 182, 398, 123), (183, 188, 398, 123), (189, 194, 398, 123), (195, 201, 398, 123), (202, 208, 398, 123), (209, 217, 398, 123), (218, 226, 398, 123), (227, 237, 398, 123), (238, 243, 398, 123), (244, 252, 398, 123), (253, 261, 398, 123), (262, 267, 398, 123), (268, 281, 398, 123), (282, 288, 398, 123), (289, 294, 398, 123), (295, 301, 398, 123), (302, 310, 398, 123), (311, 319, 398, 123), (320, 334, 398, 123), (335, 343, 398, 123), (344, 361, 398, 123), (362, 367, 398, 123), (368, 372, 398, 123), (373, 377, 398, 123), (378, 382, 398, 123)]
def nW_done : Inf := (RL, yL_done, cL_done, 7, (some .int), ([], 1, 3, 7, 0), [], 0)
abbrev wsD : List Cond := Cond.codeWith yL_done cL_done 7 (some .int) hhD :: LW
theorem wD_code : Cond.codeWith yL_done cL_done 7 (some .int) hhD ∈ LW := LW_mem (lw_in2 _ (List.mem_of_getElem? (i := 212) (by decide +kernel))) rfl
theorem wD_0 : ((Jvm.Cond.classLink "QueuewardLaw" (114 : Nat) "java/lang/IndexOutOfBoundsException") : Cond) ∈ LW := LW_mem (lw_in2 _ (List.mem_of_getElem? (i := 213) (by decide +kernel))) rfl
theorem wD_1 : ((Jvm.Cond.constant "QueuewardLaw" (116 : Nat) (-1000001 : Int32)) : Cond) ∈ LW := LW_mem (lw_in6 _ (List.mem_of_getElem? (i := 89) (by decide +kernel))) rfl
theorem wD_2 : ((Jvm.Cond.classLink "QueuewardLaw" (117 : Nat) "java/lang/IllegalArgumentException") : Cond) ∈ LW := LW_mem (lw_in3 _ (List.mem_of_getElem? (i := 52) (by decide +kernel))) rfl
theorem wD_3 : ((Jvm.Cond.constant "QueuewardLaw" (119 : Nat) (-1000002 : Int32)) : Cond) ∈ LW := LW_mem (lw_in6 _ (List.mem_of_getElem? (i := 90) (by decide +kernel))) rfl
theorem wD_4 : ((Jvm.Cond.classLink "QueuewardLaw" (120 : Nat) "java/lang/IllegalStateException") : Cond) ∈ LW := LW_mem (lw_in3 _ (List.mem_of_getElem? (i := 53) (by decide +kernel))) rfl
theorem wD_5 : ((Jvm.Cond.constant "QueuewardLaw" (122 : Nat) (-1000003 : Int32)) : Cond) ∈ LW := LW_mem (lw_in6 _ (List.mem_of_getElem? (i := 91) (by decide +kernel))) rfl
theorem wD_6 : ((Jvm.Cond.classLink "QueuewardLaw" (123 : Nat) "java/util/NoSuchElementException") : Cond) ∈ LW := LW_mem (lw_in3 _ (List.mem_of_getElem? (i := 54) (by decide +kernel))) rfl
theorem wD_7 : ((Jvm.Cond.constant "QueuewardLaw" (125 : Nat) (-1000004 : Int32)) : Cond) ∈ LW := LW_mem (lw_in6 _ (List.mem_of_getElem? (i := 92) (by decide +kernel))) rfl
theorem met_ofWH {l : Launch} {y : MethodName} {ws ws' : List Cond} {rm : Room} {Pc : Array Value → State → Prop} {Qc : Array Value → State → Outcome → State → Prop} {mc ms : Nat} {free : Addr → Prop} {cc : ByteArray} {maxL : Nat} {ret : Option FieldType} {hh : List (Nat × Nat × Nat × Nat)}
    (hy : plainName y.cls = true) (hw : ws = Cond.codeWith y cc maxL ret hh :: ws')
    (body : ∀ p e s m args below meth c s₁, BodyLoose p l y (headSpec ws rm) cc maxL ret e s m args below meth c s₁ → c.maxLocals = maxL → c.exceptionTable.toList = tableOf hh → Pc args s →
      W p l e (headSpec ws rm).room s m args below meth c s.heap [] 0 0 (MQ below Qc args s mc ms free) (entryFrame m args maxL)) : Met l y ws rm Pc Qc mc ms free := by
  refine MetFree.of_bodyS (code := cc) (maxLocals := maxL) (ret := ret) hy ?_ ?_
  · intro args s m h hn
    obtain ⟨m9, meth, c, hn9, h1, h2, h3, h4, -, h5, h6, -⟩ := Cond.codeWith_spec (atoms_spec (ws := ws) h _ (by rw [hw]; exact List.mem_cons_self))
    cases hn.symm.trans hn9
    exact ⟨meth, c, h1, h2, h3, h4, h5, h6⟩
  · intro p e s m args below meth c s₁ B hml hP _
    have hh0 : s₁.heap = s.heap := by rw [B.state]; rfl
    have htab := vx_table (x := y) B (atoms_spec (ws := ws) B.pre _ (by rw [hw]; exact List.mem_cons_self))
    obtain ⟨t, a1, o, b1, b2, b3⟩ := body p e s m args below meth c s₁ B hml htab hP s₁ hh0 (Stand.of_body B)
    exact ⟨t, o, a1, b1, b2, ⟨b3.1, b3.2⟩⟩
theorem split_at9 {α : Type} : ∀ (L : List α) (i : Nat) (x : α), L[i]? = some x → L = L.take i ++ x :: L.drop (i + 1)
  | [], i, x, h => by simp at h
  | a :: L, 0, x, h => by
    simp at h
    subst h
    rfl
  | a :: L, i + 1, x, h => by
    have h1 : L[i]? = some x := by simpa using h
    have := split_at9 L i x h1
    show a :: L = a :: (L.take i ++ x :: L.drop (i + 1))
    rw [← this]
abbrev mkE (q : Nat × Nat × Nat × Nat) : ExceptionTableEntry := ⟨q.1, q.2.1, q.2.2.1, q.2.2.2⟩
/-- the handler and its class, by the throw -/
def hnD (x : Nat) : Nat × Nat × Nat := match x with
  | 4 => (0, 383, 114)
  | 2 => (1, 388, 117)
  | 3 => (2, 393, 120)
  | _ => (3, 398, 123)
def psD (x pc : Nat) (q : Nat × Nat × Nat × Nat) : Bool := !(covers (mkE q) pc) || ncD.any (fun z => decide (z.1 = x) && decide (z.2.1 = q.2.2.2))
def dnB1 (w pc x : Nat) : Bool := match hhD[30 * (hnD x).1 + w]? with
  | some q => covers (mkE q) pc && decide (q.2.2.1 = (hnD x).2.1) && decide (q.2.2.2 = (hnD x).2.2) && (hhD.take (30 * (hnD x).1 + w)).all (psD x pc)
  | none => false
def dnB (w pc : Nat) : Bool := dnB1 w pc 2 && dnB1 w pc 3 && dnB1 w pc 4 && dnB1 w pc 5
theorem lkD {args : Array Value} {s : State} (hts : ∀ w ∈ LW, w.before args s = true) : ∀ z ∈ ncD, (Cond.classLink RL z.2.1 z.2.2).before args s = true ∧ z.2.1 ≠ 0 := List.forall_mem_cons.mpr ⟨⟨hts _ wD_0, by decide⟩, List.forall_mem_cons.mpr ⟨⟨hts _ wD_0, by decide⟩, List.forall_mem_cons.mpr ⟨⟨hts _ wD_2, by decide⟩, List.forall_mem_cons.mpr ⟨⟨hts _ wD_0, by decide⟩, List.forall_mem_cons.mpr ⟨⟨hts _ wD_2, by decide⟩, List.forall_mem_cons.mpr ⟨⟨hts _ wD_4, by decide⟩, fun _ h => absurd h List.not_mem_nil⟩⟩⟩⟩⟩⟩
section DoneL
variable {p : Program} {l : Launch} {e : Env} {R : Room} {s : State} {m : MethodId} {args : Array Value} {below : List Frame} {meth : Method} {c : Code}
variable {ρ sg sgL : Nat → Nat} {cA cW : Nat → ClassId} {D : va_G} {A J : Nat → Prop} {B : Nat} {Q : LQ} {M : Mem} {C : LMem} {dp : Nat}
variable {H : Heap} {locs : List Loc} {ls : Array Slot} {cells slots : Nat} {rest : List Value} {pc w : Nat}
theorem dn_kx (hX : HypL p l R s m args meth c sg sgL cA cW D A J B cL_done 7 3 (some .int) dp) (htab : c.exceptionTable.toList = tableOf hhD) {v1 v2 v3 v4 v5 : Int32} (hl : lv_has ls 7 [(0, .ref (ρ 149)), (1, .int v1), (2, .int v2), (3, .int v3), (4, .int v4), (5, .int v5)]) (hchk : dnB w pc = true) {x : Nat} (hx25 : 2 ≤ x ∧ x ≤ 5) (hq : Q (noX x) M C) (hw : wWL D cA cW A ρ B M C H) (hS : va_S A s.heap H locs) {ce : Cell} {q9 : Addr} (hce : H[q9]? = some ce) (hv : ce.vm = .none) (hcl : s.vm.findClass (exN x) = some ce.cls) (hc3 : cells ≤ 3) (hs3 : slots ≤ 156) :
    vx_W p l e R s m args below meth c H locs cells slots (MQ below (QcL D cA cW A ρ B 1 Q) args s 3 (52 * 3) A) (F0 m pc ls rest) q9 := by
  obtain ⟨hx, hb, hr, hml, hown, hlocks, hts, hfix, hsz, hBs, htr, hR1, hR2, hm40⟩ := hX
  have hnc := hfix.2.2.2.2.2.2.1
  have key : ∀ x : Nat, dnB1 w pc x = true → (∀ H9 : Cell, True) → s.vm.findClass (exN x) = some ce.cls → (Cond.classLink RL (hnD x).2.2 (exN x)).before args s = true → (Cond.castable (exN x) (exN x)).before args s = true → W p l e R s m args below meth c H locs cells slots (MQ below (QcL D cA cW A ρ B 1 Q) args s 3 (52 * 3) A) (F0 m (hnD x).2.1 ls [.ref q9]) → vx_W p l e R s m args below meth c H locs cells slots (MQ below (QcL D cA cW A ρ B 1 Q) args s 3 (52 * 3) A) (F0 m pc ls rest) q9 := by
    intro x hb1 _ hcl hlk hca hk
    unfold dnB1 at hb1
    split at hb1
    case h_2 => cases hb1
    rename_i q hq
    simp only [Bool.and_eq_true, decide_eq_true_eq] at hb1
    obtain ⟨⟨⟨b1, b2⟩, b3⟩, b4⟩ := hb1
    have b1' : covers (mkE q) pc = true := by
      unfold covers
      simp only [Bool.and_eq_true, decide_eq_true_eq]
      exact b1
    have hsp2 : tableOf hhD = tableOf (hhD.take (30 * (hnD x).1 + w)) ++ mkE q :: tableOf (hhD.drop (30 * (hnD x).1 + w + 1)) := by
      refine (congrArg tableOf (split_at9 hhD _ q hq)).trans ?_
      unfold tableOf
      rw [List.map_append, List.map_cons]
    refine vx_catch hown (tableOf (hhD.take (30 * (hnD x).1 + w))) (mkE q) (tableOf (hhD.drop (30 * (hnD x).1 + w + 1))) (htab.trans hsp2) (fun z hz => ?_) b1' (by show q.2.2.2 ≠ 0; rw [b3]; unfold hnD; split <;> decide) (by show (Cond.classLink RL q.2.2.2 (exN x)).before args s = true; rw [b3]; exact hlk) hca hce hv hcl (by show W p l e R s m args below meth c H locs cells slots _ (F0 m q.2.2.1 ls [.ref q9]); rw [b2]; exact hk)
    unfold tableOf at hz
    obtain ⟨r, hr1, rfl⟩ := List.mem_map.mp hz
    have h1 := List.all_eq_true.mp b4 r hr1
    unfold psD at h1
    rw [Bool.or_eq_true] at h1
    rcases h1 with h1 | h1
    · left
      cases hcov : covers (mkE r) pc with
      | false => rfl
      | true => rw [hcov] at h1; cases h1
    · right
      obtain ⟨z, z1, z2⟩ := List.any_eq_true.mp h1
      simp only [Bool.and_eq_true, decide_eq_true_eq] at z2
      obtain ⟨k1, k2⟩ := lkD hts z z1
      rw [z2.2] at k1 k2
      exact ⟨k2, z.2.2, k1, by have := hnc z z1; rw [z2.1] at this; exact this⟩
  unfold dnB at hchk
  simp only [Bool.and_eq_true] at hchk
  obtain ⟨⟨⟨k2, k3⟩, k4⟩, k5⟩ := hchk
  have fin : ∀ {v : Int} {pc : Nat} {ls : Array Slot}, v = noX x → decode cL_done pc = .ok (.ireturn, 1) → W p l e R s m args below meth c H locs cells slots (MQ below (QcL D cA cW A ρ B 1 Q) args s 3 (52 * 3) A) (F0 m pc ls [.int (Int32.ofInt v)]) := by
    intro v pc ls hv9 hd
    refine W.widen hc3 hs3 ?_
    exact W.iret (v := Int32.ofInt v) hx hb hr (fun t ht hW => ⟨⟨_, (M, C), rfl, ⟨v, rfl, by rw [hv9]; exact hq⟩, (by show wWL D cA cW A ρ B M C t.heap; rw [ht]; exact hw)⟩, hS.F ht⟩) hS.2.2 hd
  have hx4 : x = 2 ∨ x = 3 ∨ x = 4 ∨ x = 5 := by omega
  rcases hx4 with rfl | rfl | rfl | rfl
  · refine key 2 k2 (fun _ => trivial) hcl (hts _ wD_2) (va_Nw.use rfl (hfix.1.2.2.2.2.2.2.2.2.1 _ _ (lw_in3 _ (List.mem_of_getElem? (i := 64) (by decide +kernel))))) ?_
    refine lv_astore (lv' := (6, .ref q9) :: [(0, .ref (ρ 149)), (1, .int v1), (2, .int v2), (3, .int v3), (4, .int v4), (5, .int v5)]) hx hb dL_done_388 hl (by decide) rfl (fun ls hl => ?_)
    refine lv_ldc hx hb hown (hts _ wD_3) dL_done_390 ?_
    exact fin (v := -1000002) rfl dL_done_392
  · refine key 3 k3 (fun _ => trivial) hcl (hts _ wD_4) (va_Nw.use rfl (hfix.1.2.2.2.2.2.2.2.2.1 _ _ (lw_in3 _ (List.mem_of_getElem? (i := 88) (by decide +kernel))))) ?_
    refine lv_astore (lv' := (6, .ref q9) :: [(0, .ref (ρ 149)), (1, .int v1), (2, .int v2), (3, .int v3), (4, .int v4), (5, .int v5)]) hx hb dL_done_393 hl (by decide) rfl (fun ls hl => ?_)
    refine lv_ldc hx hb hown (hts _ wD_5) dL_done_395 ?_
    exact fin (v := -1000003) rfl dL_done_397
  · refine key 4 k4 (fun _ => trivial) hcl (hts _ wD_0) (va_Nw.use rfl (hfix.1.2.2.2.2.2.2.2.2.1 _ _ (lw_in3 _ (List.mem_of_getElem? (i := 133) (by decide +kernel))))) ?_
    refine lv_astore (lv' := (6, .ref q9) :: [(0, .ref (ρ 149)), (1, .int v1), (2, .int v2), (3, .int v3), (4, .int v4), (5, .int v5)]) hx hb dL_done_383 hl (by decide) rfl (fun ls hl => ?_)
    refine lv_ldc hx hb hown (hts _ wD_1) dL_done_385 ?_
    exact fin (v := -1000001) rfl dL_done_387
  · refine key 5 k5 (fun _ => trivial) hcl (hts _ wD_6) (va_Nw.use rfl (hfix.1.2.2.2.2.2.2.2.2.1 _ _ (lw_in4 _ (List.mem_of_getElem? (i := 13) (by decide +kernel))))) ?_
    refine lv_astore (lv' := (6, .ref q9) :: [(0, .ref (ρ 149)), (1, .int v1), (2, .int v2), (3, .int v3), (4, .int v4), (5, .int v5)]) hx hb dL_done_398 hl (by decide) rfl (fun ls hl => ?_)
    refine lv_ldc hx hb hown (hts _ wD_7) dL_done_400 ?_
    exact fin (v := -1000004) rfl dL_done_402
end DoneL
theorem wD_8 : ((Jvm.Cond.methodLink "QueuewardLaw" (14 : Nat) ({ cls := "Queueward", name := "come", desc := "(IIII)I" } : Jvm.MethodName)) : Cond) ∈ LW := LW_mem (lw_in3 _ (List.mem_of_getElem? (i := 55) (by decide +kernel))) rfl
theorem wD_9 : ((Jvm.Cond.instanceMethod ({ cls := "Queueward", name := "come", desc := "(IIII)I" } : Jvm.MethodName)) : Cond) ∈ LW := LW_mem (lw_in3 _ (List.mem_of_getElem? (i := 56) (by decide +kernel))) rfl
theorem wD_10 : ((Jvm.Cond.selects "Queueward" ({ cls := "Queueward", name := "come", desc := "(IIII)I" } : Jvm.MethodName) ({ cls := "Queueward", name := "come", desc := "(IIII)I" } : Jvm.MethodName)) : Cond) ∈ LW := LW_mem (lw_in3 _ (List.mem_of_getElem? (i := 57) (by decide +kernel))) rfl
theorem wD_11 : ((Jvm.Cond.initialized "Queueward") : Cond) ∈ LW := LW_mem (lw_in1 _ (List.mem_of_getElem? (i := 1) (by decide +kernel))) rfl
theorem wD_12 : ((Jvm.Cond.methodLink "QueuewardLaw" (20 : Nat) ({ cls := "Queueward", name := "line", desc := "(IIII)I" } : Jvm.MethodName)) : Cond) ∈ LW := LW_mem (lw_in3 _ (List.mem_of_getElem? (i := 118) (by decide +kernel))) rfl
theorem wD_13 : ((Jvm.Cond.instanceMethod ({ cls := "Queueward", name := "line", desc := "(IIII)I" } : Jvm.MethodName)) : Cond) ∈ LW := LW_mem (lw_in3 _ (List.mem_of_getElem? (i := 119) (by decide +kernel))) rfl
theorem wD_14 : ((Jvm.Cond.selects "Queueward" ({ cls := "Queueward", name := "line", desc := "(IIII)I" } : Jvm.MethodName) ({ cls := "Queueward", name := "line", desc := "(IIII)I" } : Jvm.MethodName)) : Cond) ∈ LW := LW_mem (lw_in3 _ (List.mem_of_getElem? (i := 120) (by decide +kernel))) rfl
theorem wD_15 : ((Jvm.Cond.methodLink "QueuewardLaw" (23 : Nat) ({ cls := "Queueward", name := "jobAt", desc := "(II)I" } : Jvm.MethodName)) : Cond) ∈ LW := LW_mem (lw_in3 _ (List.mem_of_getElem? (i := 127) (by decide +kernel))) rfl
theorem wD_16 : ((Jvm.Cond.instanceMethod ({ cls := "Queueward", name := "jobAt", desc := "(II)I" } : Jvm.MethodName)) : Cond) ∈ LW := LW_mem (lw_in3 _ (List.mem_of_getElem? (i := 128) (by decide +kernel))) rfl
theorem wD_17 : ((Jvm.Cond.selects "Queueward" ({ cls := "Queueward", name := "jobAt", desc := "(II)I" } : Jvm.MethodName) ({ cls := "Queueward", name := "jobAt", desc := "(II)I" } : Jvm.MethodName)) : Cond) ∈ LW := LW_mem (lw_in3 _ (List.mem_of_getElem? (i := 129) (by decide +kernel))) rfl
theorem wD_18 : ((Jvm.Cond.methodLink "QueuewardLaw" (27 : Nat) ({ cls := "Queueward", name := "meanTime", desc := "(I)I" } : Jvm.MethodName)) : Cond) ∈ LW := LW_mem (lw_in3 _ (List.mem_of_getElem? (i := 196) (by decide +kernel))) rfl
theorem wD_19 : ((Jvm.Cond.instanceMethod ({ cls := "Queueward", name := "meanTime", desc := "(I)I" } : Jvm.MethodName)) : Cond) ∈ LW := LW_mem (lw_in3 _ (List.mem_of_getElem? (i := 197) (by decide +kernel))) rfl
theorem wD_20 : ((Jvm.Cond.selects "Queueward" ({ cls := "Queueward", name := "meanTime", desc := "(I)I" } : Jvm.MethodName) ({ cls := "Queueward", name := "meanTime", desc := "(I)I" } : Jvm.MethodName)) : Cond) ∈ LW := LW_mem (lw_in3 _ (List.mem_of_getElem? (i := 198) (by decide +kernel))) rfl
theorem wD_21 : ((Jvm.Cond.methodLink "QueuewardLaw" (31 : Nat) ({ cls := "Queueward", name := "states", desc := "(II)I" } : Jvm.MethodName)) : Cond) ∈ LW := LW_mem (lw_in3 _ (List.mem_of_getElem? (i := 216) (by decide +kernel))) rfl
theorem wD_22 : ((Jvm.Cond.instanceMethod ({ cls := "Queueward", name := "states", desc := "(II)I" } : Jvm.MethodName)) : Cond) ∈ LW := LW_mem (lw_in3 _ (List.mem_of_getElem? (i := 217) (by decide +kernel))) rfl
theorem wD_23 : ((Jvm.Cond.selects "Queueward" ({ cls := "Queueward", name := "states", desc := "(II)I" } : Jvm.MethodName) ({ cls := "Queueward", name := "states", desc := "(II)I" } : Jvm.MethodName)) : Cond) ∈ LW := LW_mem (lw_in3 _ (List.mem_of_getElem? (i := 218) (by decide +kernel))) rfl
theorem wD_24 : ((Jvm.Cond.methodLink "QueuewardLaw" (34 : Nat) ({ cls := "Queueward", name := "chance", desc := "(III)I" } : Jvm.MethodName)) : Cond) ∈ LW := LW_mem (lw_in3 _ (List.mem_of_getElem? (i := 225) (by decide +kernel))) rfl
theorem wD_25 : ((Jvm.Cond.instanceMethod ({ cls := "Queueward", name := "chance", desc := "(III)I" } : Jvm.MethodName)) : Cond) ∈ LW := LW_mem (lw_in3 _ (List.mem_of_getElem? (i := 226) (by decide +kernel))) rfl
theorem wD_26 : ((Jvm.Cond.selects "Queueward" ({ cls := "Queueward", name := "chance", desc := "(III)I" } : Jvm.MethodName) ({ cls := "Queueward", name := "chance", desc := "(III)I" } : Jvm.MethodName)) : Cond) ∈ LW := LW_mem (lw_in3 _ (List.mem_of_getElem? (i := 227) (by decide +kernel))) rfl
theorem wD_27 : ((Jvm.Cond.methodLink "QueuewardLaw" (38 : Nat) ({ cls := "Queueward", name := "group", desc := "(I)I" } : Jvm.MethodName)) : Cond) ∈ LW := LW_mem (lw_in3 _ (List.mem_of_getElem? (i := 238) (by decide +kernel))) rfl
theorem wD_28 : ((Jvm.Cond.instanceMethod ({ cls := "Queueward", name := "group", desc := "(I)I" } : Jvm.MethodName)) : Cond) ∈ LW := LW_mem (lw_in3 _ (List.mem_of_getElem? (i := 239) (by decide +kernel))) rfl
theorem wD_29 : ((Jvm.Cond.selects "Queueward" ({ cls := "Queueward", name := "group", desc := "(I)I" } : Jvm.MethodName) ({ cls := "Queueward", name := "group", desc := "(I)I" } : Jvm.MethodName)) : Cond) ∈ LW := LW_mem (lw_in4 _ (List.mem_of_getElem? (i := 0) (by decide +kernel))) rfl
theorem wD_30 : ((Jvm.Cond.methodLink "QueuewardLaw" (41 : Nat) ({ cls := "Queueward", name := "longShare", desc := "(I)I" } : Jvm.MethodName)) : Cond) ∈ LW := LW_mem (lw_in4 _ (List.mem_of_getElem? (i := 59) (by decide +kernel))) rfl
theorem wD_31 : ((Jvm.Cond.instanceMethod ({ cls := "Queueward", name := "longShare", desc := "(I)I" } : Jvm.MethodName)) : Cond) ∈ LW := LW_mem (lw_in4 _ (List.mem_of_getElem? (i := 60) (by decide +kernel))) rfl
theorem wD_32 : ((Jvm.Cond.selects "Queueward" ({ cls := "Queueward", name := "longShare", desc := "(I)I" } : Jvm.MethodName) ({ cls := "Queueward", name := "longShare", desc := "(I)I" } : Jvm.MethodName)) : Cond) ∈ LW := LW_mem (lw_in4 _ (List.mem_of_getElem? (i := 61) (by decide +kernel))) rfl
theorem wD_33 : ((Jvm.Cond.methodLink "QueuewardLaw" (44 : Nat) ({ cls := "Queueward", name := "reach", desc := "(II)I" } : Jvm.MethodName)) : Cond) ∈ LW := LW_mem (lw_in4 _ (List.mem_of_getElem? (i := 93) (by decide +kernel))) rfl
theorem wD_34 : ((Jvm.Cond.instanceMethod ({ cls := "Queueward", name := "reach", desc := "(II)I" } : Jvm.MethodName)) : Cond) ∈ LW := LW_mem (lw_in4 _ (List.mem_of_getElem? (i := 94) (by decide +kernel))) rfl
theorem wD_35 : ((Jvm.Cond.selects "Queueward" ({ cls := "Queueward", name := "reach", desc := "(II)I" } : Jvm.MethodName) ({ cls := "Queueward", name := "reach", desc := "(II)I" } : Jvm.MethodName)) : Cond) ∈ LW := LW_mem (lw_in4 _ (List.mem_of_getElem? (i := 95) (by decide +kernel))) rfl
theorem wD_36 : ((Jvm.Cond.methodLink "QueuewardLaw" (47 : Nat) ({ cls := "Queueward", name := "timeTo", desc := "(II)I" } : Jvm.MethodName)) : Cond) ∈ LW := LW_mem (lw_in4 _ (List.mem_of_getElem? (i := 105) (by decide +kernel))) rfl
theorem wD_37 : ((Jvm.Cond.instanceMethod ({ cls := "Queueward", name := "timeTo", desc := "(II)I" } : Jvm.MethodName)) : Cond) ∈ LW := LW_mem (lw_in4 _ (List.mem_of_getElem? (i := 106) (by decide +kernel))) rfl
theorem wD_38 : ((Jvm.Cond.selects "Queueward" ({ cls := "Queueward", name := "timeTo", desc := "(II)I" } : Jvm.MethodName) ({ cls := "Queueward", name := "timeTo", desc := "(II)I" } : Jvm.MethodName)) : Cond) ∈ LW := LW_mem (lw_in4 _ (List.mem_of_getElem? (i := 107) (by decide +kernel))) rfl
theorem wD_39 : ((Jvm.Cond.methodLink "QueuewardLaw" (50 : Nat) ({ cls := "Queueward", name := "behind", desc := "(III)I" } : Jvm.MethodName)) : Cond) ∈ LW := LW_mem (lw_in4 _ (List.mem_of_getElem? (i := 122) (by decide +kernel))) rfl
theorem wD_40 : ((Jvm.Cond.instanceMethod ({ cls := "Queueward", name := "behind", desc := "(III)I" } : Jvm.MethodName)) : Cond) ∈ LW := LW_mem (lw_in4 _ (List.mem_of_getElem? (i := 123) (by decide +kernel))) rfl
theorem wD_41 : ((Jvm.Cond.selects "Queueward" ({ cls := "Queueward", name := "behind", desc := "(III)I" } : Jvm.MethodName) ({ cls := "Queueward", name := "behind", desc := "(III)I" } : Jvm.MethodName)) : Cond) ∈ LW := LW_mem (lw_in4 _ (List.mem_of_getElem? (i := 124) (by decide +kernel))) rfl
theorem wD_42 : ((Jvm.Cond.methodLink "QueuewardLaw" (53 : Nat) ({ cls := "Queueward", name := "lostShare", desc := "(III)I" } : Jvm.MethodName)) : Cond) ∈ LW := LW_mem (lw_in4 _ (List.mem_of_getElem? (i := 193) (by decide +kernel))) rfl
theorem wD_43 : ((Jvm.Cond.instanceMethod ({ cls := "Queueward", name := "lostShare", desc := "(III)I" } : Jvm.MethodName)) : Cond) ∈ LW := LW_mem (lw_in4 _ (List.mem_of_getElem? (i := 194) (by decide +kernel))) rfl
theorem wD_44 : ((Jvm.Cond.selects "Queueward" ({ cls := "Queueward", name := "lostShare", desc := "(III)I" } : Jvm.MethodName) ({ cls := "Queueward", name := "lostShare", desc := "(III)I" } : Jvm.MethodName)) : Cond) ∈ LW := LW_mem (lw_in4 _ (List.mem_of_getElem? (i := 195) (by decide +kernel))) rfl
theorem wD_45 : ((Jvm.Cond.methodLink "QueuewardLaw" (56 : Nat) ({ cls := "Queueward", name := "serversFor", desc := "(IIII)I" } : Jvm.MethodName)) : Cond) ∈ LW := LW_mem (lw_in4 _ (List.mem_of_getElem? (i := 216) (by decide +kernel))) rfl
theorem wD_46 : ((Jvm.Cond.instanceMethod ({ cls := "Queueward", name := "serversFor", desc := "(IIII)I" } : Jvm.MethodName)) : Cond) ∈ LW := LW_mem (lw_in4 _ (List.mem_of_getElem? (i := 217) (by decide +kernel))) rfl
theorem wD_47 : ((Jvm.Cond.selects "Queueward" ({ cls := "Queueward", name := "serversFor", desc := "(IIII)I" } : Jvm.MethodName) ({ cls := "Queueward", name := "serversFor", desc := "(IIII)I" } : Jvm.MethodName)) : Cond) ∈ LW := LW_mem (lw_in4 _ (List.mem_of_getElem? (i := 218) (by decide +kernel))) rfl
theorem wD_48 : ((Jvm.Cond.methodLink "QueuewardLaw" (59 : Nat) ({ cls := "Queueward", name := "net", desc := "(I)I" } : Jvm.MethodName)) : Cond) ∈ LW := LW_mem (lw_in4 _ (List.mem_of_getElem? (i := 227) (by decide +kernel))) rfl
theorem wD_49 : ((Jvm.Cond.instanceMethod ({ cls := "Queueward", name := "net", desc := "(I)I" } : Jvm.MethodName)) : Cond) ∈ LW := LW_mem (lw_in4 _ (List.mem_of_getElem? (i := 228) (by decide +kernel))) rfl
theorem wD_50 : ((Jvm.Cond.selects "Queueward" ({ cls := "Queueward", name := "net", desc := "(I)I" } : Jvm.MethodName) ({ cls := "Queueward", name := "net", desc := "(I)I" } : Jvm.MethodName)) : Cond) ∈ LW := LW_mem (lw_in4 _ (List.mem_of_getElem? (i := 229) (by decide +kernel))) rfl
theorem wD_51 : ((Jvm.Cond.methodLink "QueuewardLaw" (62 : Nat) ({ cls := "Queueward", name := "node", desc := "(III)I" } : Jvm.MethodName)) : Cond) ∈ LW := LW_mem (lw_in4 _ (List.mem_of_getElem? (i := 236) (by decide +kernel))) rfl
theorem wD_52 : ((Jvm.Cond.instanceMethod ({ cls := "Queueward", name := "node", desc := "(III)I" } : Jvm.MethodName)) : Cond) ∈ LW := LW_mem (lw_in4 _ (List.mem_of_getElem? (i := 237) (by decide +kernel))) rfl
theorem wD_53 : ((Jvm.Cond.selects "Queueward" ({ cls := "Queueward", name := "node", desc := "(III)I" } : Jvm.MethodName) ({ cls := "Queueward", name := "node", desc := "(III)I" } : Jvm.MethodName)) : Cond) ∈ LW := LW_mem (lw_in4 _ (List.mem_of_getElem? (i := 238) (by decide +kernel))) rfl
theorem wD_54 : ((Jvm.Cond.methodLink "QueuewardLaw" (65 : Nat) ({ cls := "Queueward", name := "way", desc := "(III)I" } : Jvm.MethodName)) : Cond) ∈ LW := LW_mem (lw_in5 _ (List.mem_of_getElem? (i := 6) (by decide +kernel))) rfl
theorem wD_55 : ((Jvm.Cond.instanceMethod ({ cls := "Queueward", name := "way", desc := "(III)I" } : Jvm.MethodName)) : Cond) ∈ LW := LW_mem (lw_in5 _ (List.mem_of_getElem? (i := 7) (by decide +kernel))) rfl
theorem wD_56 : ((Jvm.Cond.selects "Queueward" ({ cls := "Queueward", name := "way", desc := "(III)I" } : Jvm.MethodName) ({ cls := "Queueward", name := "way", desc := "(III)I" } : Jvm.MethodName)) : Cond) ∈ LW := LW_mem (lw_in5 _ (List.mem_of_getElem? (i := 8) (by decide +kernel))) rfl
theorem wD_57 : ((Jvm.Cond.methodLink "QueuewardLaw" (68 : Nat) ({ cls := "Queueward", name := "rate", desc := "(I)I" } : Jvm.MethodName)) : Cond) ∈ LW := LW_mem (lw_in5 _ (List.mem_of_getElem? (i := 11) (by decide +kernel))) rfl
theorem wD_58 : ((Jvm.Cond.instanceMethod ({ cls := "Queueward", name := "rate", desc := "(I)I" } : Jvm.MethodName)) : Cond) ∈ LW := LW_mem (lw_in5 _ (List.mem_of_getElem? (i := 12) (by decide +kernel))) rfl
theorem wD_59 : ((Jvm.Cond.selects "Queueward" ({ cls := "Queueward", name := "rate", desc := "(I)I" } : Jvm.MethodName) ({ cls := "Queueward", name := "rate", desc := "(I)I" } : Jvm.MethodName)) : Cond) ∈ LW := LW_mem (lw_in5 _ (List.mem_of_getElem? (i := 13) (by decide +kernel))) rfl
theorem wD_60 : ((Jvm.Cond.methodLink "QueuewardLaw" (71 : Nat) ({ cls := "Queueward", name := "isStable", desc := "(I)Z" } : Jvm.MethodName)) : Cond) ∈ LW := LW_mem (lw_in5 _ (List.mem_of_getElem? (i := 43) (by decide +kernel))) rfl
theorem wD_61 : ((Jvm.Cond.instanceMethod ({ cls := "Queueward", name := "isStable", desc := "(I)Z" } : Jvm.MethodName)) : Cond) ∈ LW := LW_mem (lw_in5 _ (List.mem_of_getElem? (i := 44) (by decide +kernel))) rfl
theorem wD_62 : ((Jvm.Cond.selects "Queueward" ({ cls := "Queueward", name := "isStable", desc := "(I)Z" } : Jvm.MethodName) ({ cls := "Queueward", name := "isStable", desc := "(I)Z" } : Jvm.MethodName)) : Cond) ∈ LW := LW_mem (lw_in5 _ (List.mem_of_getElem? (i := 45) (by decide +kernel))) rfl
theorem wD_63 : ((Jvm.Cond.methodLink "QueuewardLaw" (75 : Nat) ({ cls := "Queueward", name := "numbers", desc := "(II)I" } : Jvm.MethodName)) : Cond) ∈ LW := LW_mem (lw_in5 _ (List.mem_of_getElem? (i := 51) (by decide +kernel))) rfl
theorem wD_64 : ((Jvm.Cond.instanceMethod ({ cls := "Queueward", name := "numbers", desc := "(II)I" } : Jvm.MethodName)) : Cond) ∈ LW := LW_mem (lw_in5 _ (List.mem_of_getElem? (i := 52) (by decide +kernel))) rfl
theorem wD_65 : ((Jvm.Cond.selects "Queueward" ({ cls := "Queueward", name := "numbers", desc := "(II)I" } : Jvm.MethodName) ({ cls := "Queueward", name := "numbers", desc := "(II)I" } : Jvm.MethodName)) : Cond) ∈ LW := LW_mem (lw_in5 _ (List.mem_of_getElem? (i := 53) (by decide +kernel))) rfl
theorem wD_66 : ((Jvm.Cond.methodLink "QueuewardLaw" (78 : Nat) ({ cls := "Queueward", name := "growth", desc := "(I)I" } : Jvm.MethodName)) : Cond) ∈ LW := LW_mem (lw_in5 _ (List.mem_of_getElem? (i := 70) (by decide +kernel))) rfl
theorem wD_67 : ((Jvm.Cond.instanceMethod ({ cls := "Queueward", name := "growth", desc := "(I)I" } : Jvm.MethodName)) : Cond) ∈ LW := LW_mem (lw_in5 _ (List.mem_of_getElem? (i := 71) (by decide +kernel))) rfl
theorem wD_68 : ((Jvm.Cond.selects "Queueward" ({ cls := "Queueward", name := "growth", desc := "(I)I" } : Jvm.MethodName) ({ cls := "Queueward", name := "growth", desc := "(I)I" } : Jvm.MethodName)) : Cond) ∈ LW := LW_mem (lw_in5 _ (List.mem_of_getElem? (i := 72) (by decide +kernel))) rfl
theorem wD_69 : ((Jvm.Cond.methodLink "QueuewardLaw" (81 : Nat) ({ cls := "Queueward", name := "closed", desc := "(II)I" } : Jvm.MethodName)) : Cond) ∈ LW := LW_mem (lw_in5 _ (List.mem_of_getElem? (i := 79) (by decide +kernel))) rfl
theorem wD_70 : ((Jvm.Cond.instanceMethod ({ cls := "Queueward", name := "closed", desc := "(II)I" } : Jvm.MethodName)) : Cond) ∈ LW := LW_mem (lw_in5 _ (List.mem_of_getElem? (i := 80) (by decide +kernel))) rfl
theorem wD_71 : ((Jvm.Cond.selects "Queueward" ({ cls := "Queueward", name := "closed", desc := "(II)I" } : Jvm.MethodName) ({ cls := "Queueward", name := "closed", desc := "(II)I" } : Jvm.MethodName)) : Cond) ∈ LW := LW_mem (lw_in5 _ (List.mem_of_getElem? (i := 81) (by decide +kernel))) rfl
theorem wD_72 : ((Jvm.Cond.methodLink "QueuewardLaw" (84 : Nat) ({ cls := "Queueward", name := "envelope", desc := "(III)I" } : Jvm.MethodName)) : Cond) ∈ LW := LW_mem (lw_in5 _ (List.mem_of_getElem? (i := 113) (by decide +kernel))) rfl
theorem wD_73 : ((Jvm.Cond.instanceMethod ({ cls := "Queueward", name := "envelope", desc := "(III)I" } : Jvm.MethodName)) : Cond) ∈ LW := LW_mem (lw_in5 _ (List.mem_of_getElem? (i := 114) (by decide +kernel))) rfl
theorem wD_74 : ((Jvm.Cond.selects "Queueward" ({ cls := "Queueward", name := "envelope", desc := "(III)I" } : Jvm.MethodName) ({ cls := "Queueward", name := "envelope", desc := "(III)I" } : Jvm.MethodName)) : Cond) ∈ LW := LW_mem (lw_in5 _ (List.mem_of_getElem? (i := 115) (by decide +kernel))) rfl
theorem wD_75 : ((Jvm.Cond.methodLink "QueuewardLaw" (87 : Nat) ({ cls := "Queueward", name := "server", desc := "(III)I" } : Jvm.MethodName)) : Cond) ∈ LW := LW_mem (lw_in5 _ (List.mem_of_getElem? (i := 122) (by decide +kernel))) rfl
theorem wD_76 : ((Jvm.Cond.instanceMethod ({ cls := "Queueward", name := "server", desc := "(III)I" } : Jvm.MethodName)) : Cond) ∈ LW := LW_mem (lw_in5 _ (List.mem_of_getElem? (i := 123) (by decide +kernel))) rfl
theorem wD_77 : ((Jvm.Cond.selects "Queueward" ({ cls := "Queueward", name := "server", desc := "(III)I" } : Jvm.MethodName) ({ cls := "Queueward", name := "server", desc := "(III)I" } : Jvm.MethodName)) : Cond) ∈ LW := LW_mem (lw_in5 _ (List.mem_of_getElem? (i := 124) (by decide +kernel))) rfl
theorem wD_78 : ((Jvm.Cond.methodLink "QueuewardLaw" (90 : Nat) ({ cls := "Queueward", name := "bound", desc := "(Z)I" } : Jvm.MethodName)) : Cond) ∈ LW := LW_mem (lw_in5 _ (List.mem_of_getElem? (i := 132) (by decide +kernel))) rfl
theorem wD_79 : ((Jvm.Cond.instanceMethod ({ cls := "Queueward", name := "bound", desc := "(Z)I" } : Jvm.MethodName)) : Cond) ∈ LW := LW_mem (lw_in5 _ (List.mem_of_getElem? (i := 133) (by decide +kernel))) rfl
theorem wD_80 : ((Jvm.Cond.selects "Queueward" ({ cls := "Queueward", name := "bound", desc := "(Z)I" } : Jvm.MethodName) ({ cls := "Queueward", name := "bound", desc := "(Z)I" } : Jvm.MethodName)) : Cond) ∈ LW := LW_mem (lw_in5 _ (List.mem_of_getElem? (i := 134) (by decide +kernel))) rfl
theorem wD_81 : ((Jvm.Cond.methodLink "QueuewardLaw" (94 : Nat) ({ cls := "Queueward", name := "option", desc := "(III)I" } : Jvm.MethodName)) : Cond) ∈ LW := LW_mem (lw_in5 _ (List.mem_of_getElem? (i := 151) (by decide +kernel))) rfl
theorem wD_82 : ((Jvm.Cond.instanceMethod ({ cls := "Queueward", name := "option", desc := "(III)I" } : Jvm.MethodName)) : Cond) ∈ LW := LW_mem (lw_in5 _ (List.mem_of_getElem? (i := 152) (by decide +kernel))) rfl
theorem wD_83 : ((Jvm.Cond.selects "Queueward" ({ cls := "Queueward", name := "option", desc := "(III)I" } : Jvm.MethodName) ({ cls := "Queueward", name := "option", desc := "(III)I" } : Jvm.MethodName)) : Cond) ∈ LW := LW_mem (lw_in5 _ (List.mem_of_getElem? (i := 153) (by decide +kernel))) rfl
theorem wD_84 : ((Jvm.Cond.methodLink "QueuewardLaw" (97 : Nat) ({ cls := "Queueward", name := "split", desc := "(IIZ)I" } : Jvm.MethodName)) : Cond) ∈ LW := LW_mem (lw_in5 _ (List.mem_of_getElem? (i := 155) (by decide +kernel))) rfl
theorem wD_85 : ((Jvm.Cond.instanceMethod ({ cls := "Queueward", name := "split", desc := "(IIZ)I" } : Jvm.MethodName)) : Cond) ∈ LW := LW_mem (lw_in5 _ (List.mem_of_getElem? (i := 156) (by decide +kernel))) rfl
theorem wD_86 : ((Jvm.Cond.selects "Queueward" ({ cls := "Queueward", name := "split", desc := "(IIZ)I" } : Jvm.MethodName) ({ cls := "Queueward", name := "split", desc := "(IIZ)I" } : Jvm.MethodName)) : Cond) ∈ LW := LW_mem (lw_in5 _ (List.mem_of_getElem? (i := 157) (by decide +kernel))) rfl
theorem wD_87 : ((Jvm.Cond.methodLink "QueuewardLaw" (101 : Nat) ({ cls := "Queueward", name := "price", desc := "(I)I" } : Jvm.MethodName)) : Cond) ∈ LW := LW_mem (lw_in5 _ (List.mem_of_getElem? (i := 173) (by decide +kernel))) rfl
theorem wD_88 : ((Jvm.Cond.instanceMethod ({ cls := "Queueward", name := "price", desc := "(I)I" } : Jvm.MethodName)) : Cond) ∈ LW := LW_mem (lw_in5 _ (List.mem_of_getElem? (i := 174) (by decide +kernel))) rfl
theorem wD_89 : ((Jvm.Cond.selects "Queueward" ({ cls := "Queueward", name := "price", desc := "(I)I" } : Jvm.MethodName) ({ cls := "Queueward", name := "price", desc := "(I)I" } : Jvm.MethodName)) : Cond) ∈ LW := LW_mem (lw_in5 _ (List.mem_of_getElem? (i := 175) (by decide +kernel))) rfl
theorem wD_90 : ((Jvm.Cond.methodLink "QueuewardLaw" (104 : Nat) ({ cls := "Queueward", name := "read", desc := "()I" } : Jvm.MethodName)) : Cond) ∈ LW := LW_mem (lw_in5 _ (List.mem_of_getElem? (i := 182) (by decide +kernel))) rfl
theorem wD_91 : ((Jvm.Cond.instanceMethod ({ cls := "Queueward", name := "read", desc := "()I" } : Jvm.MethodName)) : Cond) ∈ LW := LW_mem (lw_in5 _ (List.mem_of_getElem? (i := 183) (by decide +kernel))) rfl
theorem wD_92 : ((Jvm.Cond.selects "Queueward" ({ cls := "Queueward", name := "read", desc := "()I" } : Jvm.MethodName) ({ cls := "Queueward", name := "read", desc := "()I" } : Jvm.MethodName)) : Cond) ∈ LW := LW_mem (lw_in5 _ (List.mem_of_getElem? (i := 184) (by decide +kernel))) rfl
theorem wD_93 : ((Jvm.Cond.methodLink "QueuewardLaw" (108 : Nat) ({ cls := "Queueward", name := "undo", desc := "()I" } : Jvm.MethodName)) : Cond) ∈ LW := LW_mem (lw_in6 _ (List.mem_of_getElem? (i := 55) (by decide +kernel))) rfl
theorem wD_94 : ((Jvm.Cond.instanceMethod ({ cls := "Queueward", name := "undo", desc := "()I" } : Jvm.MethodName)) : Cond) ∈ LW := LW_mem (lw_in6 _ (List.mem_of_getElem? (i := 56) (by decide +kernel))) rfl
theorem wD_95 : ((Jvm.Cond.selects "Queueward" ({ cls := "Queueward", name := "undo", desc := "()I" } : Jvm.MethodName) ({ cls := "Queueward", name := "undo", desc := "()I" } : Jvm.MethodName)) : Cond) ∈ LW := LW_mem (lw_in6 _ (List.mem_of_getElem? (i := 57) (by decide +kernel))) rfl
theorem wD_96 : ((Jvm.Cond.methodLink "QueuewardLaw" (111 : Nat) ({ cls := "Queueward", name := "write", desc := "()I" } : Jvm.MethodName)) : Cond) ∈ LW := LW_mem (lw_in6 _ (List.mem_of_getElem? (i := 64) (by decide +kernel))) rfl
theorem wD_97 : ((Jvm.Cond.instanceMethod ({ cls := "Queueward", name := "write", desc := "()I" } : Jvm.MethodName)) : Cond) ∈ LW := LW_mem (lw_in6 _ (List.mem_of_getElem? (i := 65) (by decide +kernel))) rfl
theorem wD_98 : ((Jvm.Cond.selects "Queueward" ({ cls := "Queueward", name := "write", desc := "()I" } : Jvm.MethodName) ({ cls := "Queueward", name := "write", desc := "()I" } : Jvm.MethodName)) : Cond) ∈ LW := LW_mem (lw_in6 _ (List.mem_of_getElem? (i := 66) (by decide +kernel))) rfl
set_option maxHeartbeats 8000000 in
set_option maxRecDepth 100000 in
theorem w_done {l : Launch} {linfs : List Inf} {ρ sg : Nat → Nat} {cA cW : Nat → ClassId} {D : va_G} {B : Nat} (htr : l.stackTraces = false) (hl9 : nth linfs cW_done = some nW_done) {d y : Nat} {as : List PV} {M : Mem} {C : LMem} {Q : LQ} (hd1 : 1 ≤ d) (h : extL y as M C Q) : SoundL l linfs ρ sg cA cW D B d y as M C Q := by
  unfold extL at h
  split at h
  case h_2 => exact h.elim
  rename_i wI a b c9 d9
  obtain ⟨rfl, hwr, ⟨⟨ra, rb⟩, rc, rd⟩, hcal⟩ := h
  intro f hf sgL A J _
  have hff : f = nW_done := by
    rw [hl9] at hf
    exact (Option.some.inj hf).symm
  subst hff
  refine ⟨wsD, ?_, Or.inr ⟨hhD, rfl⟩, ?_⟩
  · intro w hw
    rcases List.mem_cons.mp hw with rfl | hw
    · exact ⟨wD_code, good_of_word (LW_good _ wD_code)⟩
    · exact ⟨hw, good_of_word (LW_good w hw)⟩
  refine met_ofWH (cc := cL_done) (maxL := 7) (ret := some .int) (hh := hhD) (by decide) rfl ?_
  intro p e s m args below meth c s₁ B9 hml htab hv
  obtain ⟨rfl, hw, hBs, hsz, hfix⟩ := hv
  have hx := B9.exec
  have hb := B9.bytes
  have hr := B9.returns
  have hts0 := atoms_spec (ws := wsD) B9.pre
  have hts : ∀ w ∈ LW, w.before _ s = true := fun w hw => hts0 w (List.mem_cons_of_mem _ hw)
  have hown : s.vm.findClass RL = some m.cls := findClass_of_methodNamed B9.named
  have hlocks := B9.notSynchronized
  have hS : va_S A s.heap s.heap [] := va_S.rf
  have hX : HypL p l (headSpec wsD (rmL d 3)).room s m ([.ref (ρ 149), .int (Int32.ofInt wI), .int (Int32.ofInt a), .int (Int32.ofInt b), .int (Int32.ofInt c9), .int (Int32.ofInt d9)] : List Value).toArray meth c sg sgL cA cW D A J B cL_done 7 3 (some .int) (d - 1) := ⟨hx, hb, hr, hml, hown, hlocks, hts, hfix, hsz, hBs, htr, rfl, rfl, by decide, by show d - 1 + 41 ≤ d + 40; omega, by show 60 * (d - 1) + 1660 ≤ 60 * d + 1600; omega⟩
  have hl := lv_entry ([.ref (ρ 149), .int (Int32.ofInt wI), .int (Int32.ofInt a), .int (Int32.ofInt b), .int (Int32.ofInt c9), .int (Int32.ofInt d9)]) (n := 7) (Nat.le_of_ble_eq_true rfl)
  rw [lg_entry_eq]
  show W p l e (headSpec wsD (rmL d 3)).room s m ([.ref (ρ 149), .int (Int32.ofInt wI), .int (Int32.ofInt a), .int (Int32.ofInt b), .int (Int32.ofInt c9), .int (Int32.ofInt d9)] : List Value).toArray below meth c s.heap [] 0 (52 * 0) (MQ below (QcL D cA cW A ρ B 1 Q) ([.ref (ρ 149), .int (Int32.ofInt wI), .int (Int32.ofInt a), .int (Int32.ofInt b), .int (Int32.ofInt c9), .int (Int32.ofInt d9)] : List Value).toArray s 3 (52 * 3) A) (F0 m 0 ((lg_sl ([.ref (ρ 149), .int (Int32.ofInt wI), .int (Int32.ofInt a), .int (Int32.ofInt b), .int (Int32.ofInt c9), .int (Int32.ofInt d9)]) ++ List.replicate (7 - (lg_sl ([.ref (ρ 149), .int (Int32.ofInt wI), .int (Int32.ofInt a), .int (Int32.ofInt b), .int (Int32.ofInt c9), .int (Int32.ofInt d9)])).length) Slot.unset).toArray) [])
  generalize ([.ref (ρ 149), .int (Int32.ofInt wI), .int (Int32.ofInt a), .int (Int32.ofInt b), .int (Int32.ofInt c9), .int (Int32.ofInt d9)] : List Value).toArray = args at hX ⊢
  generalize (lg_sl ([.ref (ρ 149), .int (Int32.ofInt wI), .int (Int32.ofInt a), .int (Int32.ofInt b), .int (Int32.ofInt c9), .int (Int32.ofInt d9)]) ++ List.replicate (7 - (lg_sl ([.ref (ρ 149), .int (Int32.ofInt wI), .int (Int32.ofInt a), .int (Int32.ofInt b), .int (Int32.ofInt c9), .int (Int32.ofInt d9)])).length) Slot.unset).toArray = ls at hl ⊢
  have hl : lv_has ls 7 [(0, .ref (ρ 149)), (1, .int (Int32.ofInt wI)), (2, .int (Int32.ofInt a)), (3, .int (Int32.ofInt b)), (4, .int (Int32.ofInt c9)), (5, .int (Int32.ofInt d9))] := hl
  have fin : ∀ {v : Int} {M' : Mem} {H1 : Heap} {locs1 : List Loc} {k sl pc : Nat} {ls : Array Slot}, Q v M' C → wWL D cA cW A ρ B M' C H1 → va_S A s.heap H1 locs1 → k ≤ 3 → sl ≤ 156 → decode cL_done pc = .ok (.ireturn, 1) → W p l e (headSpec wsD (rmL d 3)).room s m args below meth c H1 locs1 k sl (MQ below (QcL D cA cW A ρ B 1 Q) args s 3 (52 * 3) A) (F0 m pc ls [.int (Int32.ofInt v)]) := by
    intro v M' H1 locs1 k sl pc ls hq hw hS hk hsl hd
    refine W.widen hk hsl ?_
    exact W.iret (v := Int32.ofInt v) hx hb hr (fun t ht hW => ⟨⟨_, (M', C), rfl, ⟨v, rfl, hq⟩, (by show wWL D cA cW A ρ B M' C t.heap; rw [ht]; exact hw)⟩, hS.F ht⟩) hS.2.2 hd
  refine lv_iload_n hx hb dL_done_0 rfl (lv_at hl 1 rfl) ?_
  have hw30 : wI = 0 ∨ wI = 1 ∨ wI = 2 ∨ wI = 3 ∨ wI = 4 ∨ wI = 5 ∨ wI = 6 ∨ wI = 7 ∨ wI = 8 ∨ wI = 9 ∨ wI = 10 ∨ wI = 11 ∨ wI = 12 ∨ wI = 13 ∨ wI = 14 ∨ wI = 15 ∨ wI = 16 ∨ wI = 17 ∨ wI = 18 ∨ wI = 19 ∨ wI = 20 ∨ wI = 21 ∨ wI = 22 ∨ wI = 23 ∨ wI = 24 ∨ wI = 25 ∨ wI = 26 ∨ wI = 27 ∨ wI = 28 ∨ wI = 29 := by omega
  rcases hw30 with rfl | rfl | rfl | rfl | rfl | rfl | rfl | rfl | rfl | rfl | rfl | rfl | rfl | rfl | rfl | rfl | rfl | rfl | rfl | rfl | rfl | rfl | rfl | rfl | rfl | rfl | rfl | rfl | rfl | rfl
  · refine lv_tableIn hx hb dL_done_1 (by decide) (by decide) (off := 131) (by decide) (tgt := 132) (by decide) ?_
    refine lv_aload_n hx hb dL_done_132 rfl (lv_at hl 0 rfl) ?_
    refine lv_iload_n hx hb dL_done_133 rfl (lv_at hl 2 rfl) ?_
    refine lv_iload_n hx hb dL_done_134 rfl (lv_at hl 3 rfl) ?_
    refine lv_iload hx hb dL_done_135 (lv_at hl 4 rfl) ?_
    refine lv_iload hx hb dL_done_137 (lv_at hl 5 rfl) ?_
    have hcal1 : cald 12 cQ_come (.inr (.inr (.inl kQ)) :: [.inl a, .inl b, .inl c9, .inl d9]) M (fun r M' => Xl r (fun v => doneV 0 v fun v' => Q v' M' C) (fun x => (2 ≤ x ∧ x ≤ 5) ∧ Q (noX x) M' C)) := hcal
    refine l_class (kc := 0) hX (nA := 4) (y := cQ_come) (f := nQ_come) rfl (infs_ok cQ_come nQ_come rfl) wD_8 wD_9 wD_10 wD_11 rfl (Nat.le_of_ble_eq_true rfl) (by decide +kernel) (as := [.inl a, .inl b, .inl c9, .inl d9]) rfl rfl hcal1 (Nat.le_of_ble_eq_true rfl) hw hS hl.1 (rest := []) (Nat.zero_le _) dL_done_139 (fun x M' H1 locs1 ce q9 hq hw1 hS1 hce hv hcl => ?_) (fun v M' H1 locs1 hq hw1 hS1 => ?_)
    · exact dn_kx (w := 0) hX htab hl (by decide +kernel) hq.1 hq.2 hw1 hS1 hce hv hcl (Nat.le_of_ble_eq_true rfl) (Nat.le_of_ble_eq_true rfl)
    · exact fin (hq.2 (by decide)) hw1 hS1 (Nat.le_of_ble_eq_true rfl) (Nat.le_of_ble_eq_true rfl) dL_done_142
  · refine lv_tableIn hx hb dL_done_1 (by decide) (by decide) (off := 142) (by decide) (tgt := 143) (by decide) ?_
    refine lv_aload_n hx hb dL_done_143 rfl (lv_at hl 0 rfl) ?_
    refine lv_iload_n hx hb dL_done_144 rfl (lv_at hl 2 rfl) ?_
    refine lv_iload_n hx hb dL_done_145 rfl (lv_at hl 3 rfl) ?_
    refine lv_iload hx hb dL_done_146 (lv_at hl 4 rfl) ?_
    refine lv_iload hx hb dL_done_148 (lv_at hl 5 rfl) ?_
    have hcal1 : cald 12 cQ_line (.inr (.inr (.inl kQ)) :: [.inl a, .inl b, .inl c9, .inl d9]) M (fun r M' => Xl r (fun v => doneV 1 v fun v' => Q v' M' C) (fun x => (2 ≤ x ∧ x ≤ 5) ∧ Q (noX x) M' C)) := hcal
    refine l_class (kc := 0) hX (nA := 4) (y := cQ_line) (f := nQ_line) rfl (infs_ok cQ_line nQ_line rfl) wD_12 wD_13 wD_14 wD_11 rfl (Nat.le_of_ble_eq_true rfl) (by decide +kernel) (as := [.inl a, .inl b, .inl c9, .inl d9]) rfl rfl hcal1 (Nat.le_of_ble_eq_true rfl) hw hS hl.1 (rest := []) (Nat.zero_le _) dL_done_150 (fun x M' H1 locs1 ce q9 hq hw1 hS1 hce hv hcl => ?_) (fun v M' H1 locs1 hq hw1 hS1 => ?_)
    · exact dn_kx (w := 1) hX htab hl (by decide +kernel) hq.1 hq.2 hw1 hS1 hce hv hcl (Nat.le_of_ble_eq_true rfl) (Nat.le_of_ble_eq_true rfl)
    · exact fin (hq.2 (by decide)) hw1 hS1 (Nat.le_of_ble_eq_true rfl) (Nat.le_of_ble_eq_true rfl) dL_done_153
  · refine lv_tableIn hx hb dL_done_1 (by decide) (by decide) (off := 153) (by decide) (tgt := 154) (by decide) ?_
    refine lv_aload_n hx hb dL_done_154 rfl (lv_at hl 0 rfl) ?_
    refine lv_iload_n hx hb dL_done_155 rfl (lv_at hl 2 rfl) ?_
    refine lv_iload_n hx hb dL_done_156 rfl (lv_at hl 3 rfl) ?_
    have hcal1 : cald 12 cQ_jobAt (.inr (.inr (.inl kQ)) :: [.inl a, .inl b]) M (fun r M' => Xl r (fun v => doneV 2 v fun v' => Q v' M' C) (fun x => (2 ≤ x ∧ x ≤ 5) ∧ Q (noX x) M' C)) := hcal
    refine l_class (kc := 0) hX (nA := 2) (y := cQ_jobAt) (f := nQ_jobAt) rfl (infs_ok cQ_jobAt nQ_jobAt rfl) wD_15 wD_16 wD_17 wD_11 rfl (Nat.le_of_ble_eq_true rfl) (by decide +kernel) (as := [.inl a, .inl b]) rfl rfl hcal1 (Nat.le_of_ble_eq_true rfl) hw hS hl.1 (rest := []) (Nat.zero_le _) dL_done_157 (fun x M' H1 locs1 ce q9 hq hw1 hS1 hce hv hcl => ?_) (fun v M' H1 locs1 hq hw1 hS1 => ?_)
    · exact dn_kx (w := 2) hX htab hl (by decide +kernel) hq.1 hq.2 hw1 hS1 hce hv hcl (Nat.le_of_ble_eq_true rfl) (Nat.le_of_ble_eq_true rfl)
    · exact fin (hq.2 (by decide)) hw1 hS1 (Nat.le_of_ble_eq_true rfl) (Nat.le_of_ble_eq_true rfl) dL_done_160
  · refine lv_tableIn hx hb dL_done_1 (by decide) (by decide) (off := 160) (by decide) (tgt := 161) (by decide) ?_
    refine lv_aload_n hx hb dL_done_161 rfl (lv_at hl 0 rfl) ?_
    refine lv_iload_n hx hb dL_done_162 rfl (lv_at hl 2 rfl) ?_
    have hcal1 : cald 12 cQ_meanTime (.inr (.inr (.inl kQ)) :: [.inl a]) M (fun r M' => Xl r (fun v => doneV 3 v fun v' => Q v' M' C) (fun x => (2 ≤ x ∧ x ≤ 5) ∧ Q (noX x) M' C)) := hcal
    refine l_class (kc := 0) hX (nA := 1) (y := cQ_meanTime) (f := nQ_meanTime) rfl (infs_ok cQ_meanTime nQ_meanTime rfl) wD_18 wD_19 wD_20 wD_11 rfl (Nat.le_of_ble_eq_true rfl) (by decide +kernel) (as := [.inl a]) rfl rfl hcal1 (Nat.le_of_ble_eq_true rfl) hw hS hl.1 (rest := []) (Nat.zero_le _) dL_done_163 (fun x M' H1 locs1 ce q9 hq hw1 hS1 hce hv hcl => ?_) (fun v M' H1 locs1 hq hw1 hS1 => ?_)
    · exact dn_kx (w := 3) hX htab hl (by decide +kernel) hq.1 hq.2 hw1 hS1 hce hv hcl (Nat.le_of_ble_eq_true rfl) (Nat.le_of_ble_eq_true rfl)
    · exact fin (hq.2 (by decide)) hw1 hS1 (Nat.le_of_ble_eq_true rfl) (Nat.le_of_ble_eq_true rfl) dL_done_166
  · refine lv_tableIn hx hb dL_done_1 (by decide) (by decide) (off := 166) (by decide) (tgt := 167) (by decide) ?_
    refine lv_aload_n hx hb dL_done_167 rfl (lv_at hl 0 rfl) ?_
    refine lv_iload_n hx hb dL_done_168 rfl (lv_at hl 2 rfl) ?_
    refine lv_iload_n hx hb dL_done_169 rfl (lv_at hl 3 rfl) ?_
    have hcal1 : cald 12 cQ_states (.inr (.inr (.inl kQ)) :: [.inl a, .inl b]) M (fun r M' => Xl r (fun v => doneV 4 v fun v' => Q v' M' C) (fun x => (2 ≤ x ∧ x ≤ 5) ∧ Q (noX x) M' C)) := hcal
    refine l_class (kc := 0) hX (nA := 2) (y := cQ_states) (f := nQ_states) rfl (infs_ok cQ_states nQ_states rfl) wD_21 wD_22 wD_23 wD_11 rfl (Nat.le_of_ble_eq_true rfl) (by decide +kernel) (as := [.inl a, .inl b]) rfl rfl hcal1 (Nat.le_of_ble_eq_true rfl) hw hS hl.1 (rest := []) (Nat.zero_le _) dL_done_170 (fun x M' H1 locs1 ce q9 hq hw1 hS1 hce hv hcl => ?_) (fun v M' H1 locs1 hq hw1 hS1 => ?_)
    · exact dn_kx (w := 4) hX htab hl (by decide +kernel) hq.1 hq.2 hw1 hS1 hce hv hcl (Nat.le_of_ble_eq_true rfl) (Nat.le_of_ble_eq_true rfl)
    · exact fin (hq.2 (by decide)) hw1 hS1 (Nat.le_of_ble_eq_true rfl) (Nat.le_of_ble_eq_true rfl) dL_done_173
  · refine lv_tableIn hx hb dL_done_1 (by decide) (by decide) (off := 173) (by decide) (tgt := 174) (by decide) ?_
    refine lv_aload_n hx hb dL_done_174 rfl (lv_at hl 0 rfl) ?_
    refine lv_iload_n hx hb dL_done_175 rfl (lv_at hl 2 rfl) ?_
    refine lv_iload_n hx hb dL_done_176 rfl (lv_at hl 3 rfl) ?_
    refine lv_iload hx hb dL_done_177 (lv_at hl 4 rfl) ?_
    have hcal1 : cald 12 cQ_chance (.inr (.inr (.inl kQ)) :: [.inl a, .inl b, .inl c9]) M (fun r M' => Xl r (fun v => doneV 5 v fun v' => Q v' M' C) (fun x => (2 ≤ x ∧ x ≤ 5) ∧ Q (noX x) M' C)) := hcal
    refine l_class (kc := 0) hX (nA := 3) (y := cQ_chance) (f := nQ_chance) rfl (infs_ok cQ_chance nQ_chance rfl) wD_24 wD_25 wD_26 wD_11 rfl (Nat.le_of_ble_eq_true rfl) (by decide +kernel) (as := [.inl a, .inl b, .inl c9]) rfl rfl hcal1 (Nat.le_of_ble_eq_true rfl) hw hS hl.1 (rest := []) (Nat.zero_le _) dL_done_179 (fun x M' H1 locs1 ce q9 hq hw1 hS1 hce hv hcl => ?_) (fun v M' H1 locs1 hq hw1 hS1 => ?_)
    · exact dn_kx (w := 5) hX htab hl (by decide +kernel) hq.1 hq.2 hw1 hS1 hce hv hcl (Nat.le_of_ble_eq_true rfl) (Nat.le_of_ble_eq_true rfl)
    · exact fin (hq.2 (by decide)) hw1 hS1 (Nat.le_of_ble_eq_true rfl) (Nat.le_of_ble_eq_true rfl) dL_done_182
  · refine lv_tableIn hx hb dL_done_1 (by decide) (by decide) (off := 182) (by decide) (tgt := 183) (by decide) ?_
    refine lv_aload_n hx hb dL_done_183 rfl (lv_at hl 0 rfl) ?_
    refine lv_iload_n hx hb dL_done_184 rfl (lv_at hl 2 rfl) ?_
    have hcal1 : cald 12 cQ_group (.inr (.inr (.inl kQ)) :: [.inl a]) M (fun r M' => Xl r (fun v => doneV 6 v fun v' => Q v' M' C) (fun x => (2 ≤ x ∧ x ≤ 5) ∧ Q (noX x) M' C)) := hcal
    refine l_class (kc := 0) hX (nA := 1) (y := cQ_group) (f := nQ_group) rfl (infs_ok cQ_group nQ_group rfl) wD_27 wD_28 wD_29 wD_11 rfl (Nat.le_of_ble_eq_true rfl) (by decide +kernel) (as := [.inl a]) rfl rfl hcal1 (Nat.le_of_ble_eq_true rfl) hw hS hl.1 (rest := []) (Nat.zero_le _) dL_done_185 (fun x M' H1 locs1 ce q9 hq hw1 hS1 hce hv hcl => ?_) (fun v M' H1 locs1 hq hw1 hS1 => ?_)
    · exact dn_kx (w := 6) hX htab hl (by decide +kernel) hq.1 hq.2 hw1 hS1 hce hv hcl (Nat.le_of_ble_eq_true rfl) (Nat.le_of_ble_eq_true rfl)
    · exact fin (hq.2 (by decide)) hw1 hS1 (Nat.le_of_ble_eq_true rfl) (Nat.le_of_ble_eq_true rfl) dL_done_188
  · refine lv_tableIn hx hb dL_done_1 (by decide) (by decide) (off := 188) (by decide) (tgt := 189) (by decide) ?_
    refine lv_aload_n hx hb dL_done_189 rfl (lv_at hl 0 rfl) ?_
    refine lv_iload_n hx hb dL_done_190 rfl (lv_at hl 2 rfl) ?_
    have hcal1 : cald 12 cQ_longShare (.inr (.inr (.inl kQ)) :: [.inl a]) M (fun r M' => Xl r (fun v => doneV 7 v fun v' => Q v' M' C) (fun x => (2 ≤ x ∧ x ≤ 5) ∧ Q (noX x) M' C)) := hcal
    refine l_class (kc := 0) hX (nA := 1) (y := cQ_longShare) (f := nQ_longShare) rfl (infs_ok cQ_longShare nQ_longShare rfl) wD_30 wD_31 wD_32 wD_11 rfl (Nat.le_of_ble_eq_true rfl) (by decide +kernel) (as := [.inl a]) rfl rfl hcal1 (Nat.le_of_ble_eq_true rfl) hw hS hl.1 (rest := []) (Nat.zero_le _) dL_done_191 (fun x M' H1 locs1 ce q9 hq hw1 hS1 hce hv hcl => ?_) (fun v M' H1 locs1 hq hw1 hS1 => ?_)
    · exact dn_kx (w := 7) hX htab hl (by decide +kernel) hq.1 hq.2 hw1 hS1 hce hv hcl (Nat.le_of_ble_eq_true rfl) (Nat.le_of_ble_eq_true rfl)
    · exact fin (hq.2 (by decide)) hw1 hS1 (Nat.le_of_ble_eq_true rfl) (Nat.le_of_ble_eq_true rfl) dL_done_194
  · refine lv_tableIn hx hb dL_done_1 (by decide) (by decide) (off := 194) (by decide) (tgt := 195) (by decide) ?_
    refine lv_aload_n hx hb dL_done_195 rfl (lv_at hl 0 rfl) ?_
    refine lv_iload_n hx hb dL_done_196 rfl (lv_at hl 2 rfl) ?_
    refine lv_iload_n hx hb dL_done_197 rfl (lv_at hl 3 rfl) ?_
    have hcal1 : cald 12 cQ_reach (.inr (.inr (.inl kQ)) :: [.inl a, .inl b]) M (fun r M' => Xl r (fun v => doneV 8 v fun v' => Q v' M' C) (fun x => (2 ≤ x ∧ x ≤ 5) ∧ Q (noX x) M' C)) := hcal
    refine l_class (kc := 0) hX (nA := 2) (y := cQ_reach) (f := nQ_reach) rfl (infs_ok cQ_reach nQ_reach rfl) wD_33 wD_34 wD_35 wD_11 rfl (Nat.le_of_ble_eq_true rfl) (by decide +kernel) (as := [.inl a, .inl b]) rfl rfl hcal1 (Nat.le_of_ble_eq_true rfl) hw hS hl.1 (rest := []) (Nat.zero_le _) dL_done_198 (fun x M' H1 locs1 ce q9 hq hw1 hS1 hce hv hcl => ?_) (fun v M' H1 locs1 hq hw1 hS1 => ?_)
    · exact dn_kx (w := 8) hX htab hl (by decide +kernel) hq.1 hq.2 hw1 hS1 hce hv hcl (Nat.le_of_ble_eq_true rfl) (Nat.le_of_ble_eq_true rfl)
    · exact fin (hq.2 (by decide)) hw1 hS1 (Nat.le_of_ble_eq_true rfl) (Nat.le_of_ble_eq_true rfl) dL_done_201
  · refine lv_tableIn hx hb dL_done_1 (by decide) (by decide) (off := 201) (by decide) (tgt := 202) (by decide) ?_
    refine lv_aload_n hx hb dL_done_202 rfl (lv_at hl 0 rfl) ?_
    refine lv_iload_n hx hb dL_done_203 rfl (lv_at hl 2 rfl) ?_
    refine lv_iload_n hx hb dL_done_204 rfl (lv_at hl 3 rfl) ?_
    have hcal1 : cald 12 cQ_timeTo (.inr (.inr (.inl kQ)) :: [.inl a, .inl b]) M (fun r M' => Xl r (fun v => doneV 9 v fun v' => Q v' M' C) (fun x => (2 ≤ x ∧ x ≤ 5) ∧ Q (noX x) M' C)) := hcal
    refine l_class (kc := 0) hX (nA := 2) (y := cQ_timeTo) (f := nQ_timeTo) rfl (infs_ok cQ_timeTo nQ_timeTo rfl) wD_36 wD_37 wD_38 wD_11 rfl (Nat.le_of_ble_eq_true rfl) (by decide +kernel) (as := [.inl a, .inl b]) rfl rfl hcal1 (Nat.le_of_ble_eq_true rfl) hw hS hl.1 (rest := []) (Nat.zero_le _) dL_done_205 (fun x M' H1 locs1 ce q9 hq hw1 hS1 hce hv hcl => ?_) (fun v M' H1 locs1 hq hw1 hS1 => ?_)
    · exact dn_kx (w := 9) hX htab hl (by decide +kernel) hq.1 hq.2 hw1 hS1 hce hv hcl (Nat.le_of_ble_eq_true rfl) (Nat.le_of_ble_eq_true rfl)
    · exact fin (hq.2 (by decide)) hw1 hS1 (Nat.le_of_ble_eq_true rfl) (Nat.le_of_ble_eq_true rfl) dL_done_208
  · refine lv_tableIn hx hb dL_done_1 (by decide) (by decide) (off := 208) (by decide) (tgt := 209) (by decide) ?_
    refine lv_aload_n hx hb dL_done_209 rfl (lv_at hl 0 rfl) ?_
    refine lv_iload_n hx hb dL_done_210 rfl (lv_at hl 2 rfl) ?_
    refine lv_iload_n hx hb dL_done_211 rfl (lv_at hl 3 rfl) ?_
    refine lv_iload hx hb dL_done_212 (lv_at hl 4 rfl) ?_
    have hcal1 : cald 12 cQ_behind (.inr (.inr (.inl kQ)) :: [.inl a, .inl b, .inl c9]) M (fun r M' => Xl r (fun v => doneV 10 v fun v' => Q v' M' C) (fun x => (2 ≤ x ∧ x ≤ 5) ∧ Q (noX x) M' C)) := hcal
    refine l_class (kc := 0) hX (nA := 3) (y := cQ_behind) (f := nQ_behind) rfl (infs_ok cQ_behind nQ_behind rfl) wD_39 wD_40 wD_41 wD_11 rfl (Nat.le_of_ble_eq_true rfl) (by decide +kernel) (as := [.inl a, .inl b, .inl c9]) rfl rfl hcal1 (Nat.le_of_ble_eq_true rfl) hw hS hl.1 (rest := []) (Nat.zero_le _) dL_done_214 (fun x M' H1 locs1 ce q9 hq hw1 hS1 hce hv hcl => ?_) (fun v M' H1 locs1 hq hw1 hS1 => ?_)
    · exact dn_kx (w := 10) hX htab hl (by decide +kernel) hq.1 hq.2 hw1 hS1 hce hv hcl (Nat.le_of_ble_eq_true rfl) (Nat.le_of_ble_eq_true rfl)
    · exact fin (hq.2 (by decide)) hw1 hS1 (Nat.le_of_ble_eq_true rfl) (Nat.le_of_ble_eq_true rfl) dL_done_217
  · refine lv_tableIn hx hb dL_done_1 (by decide) (by decide) (off := 217) (by decide) (tgt := 218) (by decide) ?_
    refine lv_aload_n hx hb dL_done_218 rfl (lv_at hl 0 rfl) ?_
    refine lv_iload_n hx hb dL_done_219 rfl (lv_at hl 2 rfl) ?_
    refine lv_iload_n hx hb dL_done_220 rfl (lv_at hl 3 rfl) ?_
    refine lv_iload hx hb dL_done_221 (lv_at hl 4 rfl) ?_
    have hcal1 : cald 12 cQ_lostShare (.inr (.inr (.inl kQ)) :: [.inl a, .inl b, .inl c9]) M (fun r M' => Xl r (fun v => doneV 11 v fun v' => Q v' M' C) (fun x => (2 ≤ x ∧ x ≤ 5) ∧ Q (noX x) M' C)) := hcal
    refine l_class (kc := 0) hX (nA := 3) (y := cQ_lostShare) (f := nQ_lostShare) rfl (infs_ok cQ_lostShare nQ_lostShare rfl) wD_42 wD_43 wD_44 wD_11 rfl (Nat.le_of_ble_eq_true rfl) (by decide +kernel) (as := [.inl a, .inl b, .inl c9]) rfl rfl hcal1 (Nat.le_of_ble_eq_true rfl) hw hS hl.1 (rest := []) (Nat.zero_le _) dL_done_223 (fun x M' H1 locs1 ce q9 hq hw1 hS1 hce hv hcl => ?_) (fun v M' H1 locs1 hq hw1 hS1 => ?_)
    · exact dn_kx (w := 11) hX htab hl (by decide +kernel) hq.1 hq.2 hw1 hS1 hce hv hcl (Nat.le_of_ble_eq_true rfl) (Nat.le_of_ble_eq_true rfl)
    · exact fin (hq.2 (by decide)) hw1 hS1 (Nat.le_of_ble_eq_true rfl) (Nat.le_of_ble_eq_true rfl) dL_done_226
  · refine lv_tableIn hx hb dL_done_1 (by decide) (by decide) (off := 226) (by decide) (tgt := 227) (by decide) ?_
    refine lv_aload_n hx hb dL_done_227 rfl (lv_at hl 0 rfl) ?_
    refine lv_iload_n hx hb dL_done_228 rfl (lv_at hl 2 rfl) ?_
    refine lv_iload_n hx hb dL_done_229 rfl (lv_at hl 3 rfl) ?_
    refine lv_iload hx hb dL_done_230 (lv_at hl 4 rfl) ?_
    refine lv_iload hx hb dL_done_232 (lv_at hl 5 rfl) ?_
    have hcal1 : cald 12 cQ_serversFor (.inr (.inr (.inl kQ)) :: [.inl a, .inl b, .inl c9, .inl d9]) M (fun r M' => Xl r (fun v => doneV 12 v fun v' => Q v' M' C) (fun x => (2 ≤ x ∧ x ≤ 5) ∧ Q (noX x) M' C)) := hcal
    refine l_class (kc := 0) hX (nA := 4) (y := cQ_serversFor) (f := nQ_serversFor) rfl (infs_ok cQ_serversFor nQ_serversFor rfl) wD_45 wD_46 wD_47 wD_11 rfl (Nat.le_of_ble_eq_true rfl) (by decide +kernel) (as := [.inl a, .inl b, .inl c9, .inl d9]) rfl rfl hcal1 (Nat.le_of_ble_eq_true rfl) hw hS hl.1 (rest := []) (Nat.zero_le _) dL_done_234 (fun x M' H1 locs1 ce q9 hq hw1 hS1 hce hv hcl => ?_) (fun v M' H1 locs1 hq hw1 hS1 => ?_)
    · exact dn_kx (w := 12) hX htab hl (by decide +kernel) hq.1 hq.2 hw1 hS1 hce hv hcl (Nat.le_of_ble_eq_true rfl) (Nat.le_of_ble_eq_true rfl)
    · exact fin (hq.2 (by decide)) hw1 hS1 (Nat.le_of_ble_eq_true rfl) (Nat.le_of_ble_eq_true rfl) dL_done_237
  · refine lv_tableIn hx hb dL_done_1 (by decide) (by decide) (off := 237) (by decide) (tgt := 238) (by decide) ?_
    refine lv_aload_n hx hb dL_done_238 rfl (lv_at hl 0 rfl) ?_
    refine lv_iload_n hx hb dL_done_239 rfl (lv_at hl 2 rfl) ?_
    have hcal1 : cald 12 cQ_net (.inr (.inr (.inl kQ)) :: [.inl a]) M (fun r M' => Xl r (fun v => doneV 13 v fun v' => Q v' M' C) (fun x => (2 ≤ x ∧ x ≤ 5) ∧ Q (noX x) M' C)) := hcal
    refine l_class (kc := 0) hX (nA := 1) (y := cQ_net) (f := nQ_net) rfl (infs_ok cQ_net nQ_net rfl) wD_48 wD_49 wD_50 wD_11 rfl (Nat.le_of_ble_eq_true rfl) (by decide +kernel) (as := [.inl a]) rfl rfl hcal1 (Nat.le_of_ble_eq_true rfl) hw hS hl.1 (rest := []) (Nat.zero_le _) dL_done_240 (fun x M' H1 locs1 ce q9 hq hw1 hS1 hce hv hcl => ?_) (fun v M' H1 locs1 hq hw1 hS1 => ?_)
    · exact dn_kx (w := 13) hX htab hl (by decide +kernel) hq.1 hq.2 hw1 hS1 hce hv hcl (Nat.le_of_ble_eq_true rfl) (Nat.le_of_ble_eq_true rfl)
    · exact fin (hq.2 (by decide)) hw1 hS1 (Nat.le_of_ble_eq_true rfl) (Nat.le_of_ble_eq_true rfl) dL_done_243
  · refine lv_tableIn hx hb dL_done_1 (by decide) (by decide) (off := 243) (by decide) (tgt := 244) (by decide) ?_
    refine lv_aload_n hx hb dL_done_244 rfl (lv_at hl 0 rfl) ?_
    refine lv_iload_n hx hb dL_done_245 rfl (lv_at hl 2 rfl) ?_
    refine lv_iload_n hx hb dL_done_246 rfl (lv_at hl 3 rfl) ?_
    refine lv_iload hx hb dL_done_247 (lv_at hl 4 rfl) ?_
    have hcal1 : cald 12 cQ_node (.inr (.inr (.inl kQ)) :: [.inl a, .inl b, .inl c9]) M (fun r M' => Xl r (fun v => doneV 14 v fun v' => Q v' M' C) (fun x => (2 ≤ x ∧ x ≤ 5) ∧ Q (noX x) M' C)) := hcal
    refine l_class (kc := 0) hX (nA := 3) (y := cQ_node) (f := nQ_node) rfl (infs_ok cQ_node nQ_node rfl) wD_51 wD_52 wD_53 wD_11 rfl (Nat.le_of_ble_eq_true rfl) (by decide +kernel) (as := [.inl a, .inl b, .inl c9]) rfl rfl hcal1 (Nat.le_of_ble_eq_true rfl) hw hS hl.1 (rest := []) (Nat.zero_le _) dL_done_249 (fun x M' H1 locs1 ce q9 hq hw1 hS1 hce hv hcl => ?_) (fun v M' H1 locs1 hq hw1 hS1 => ?_)
    · exact dn_kx (w := 14) hX htab hl (by decide +kernel) hq.1 hq.2 hw1 hS1 hce hv hcl (Nat.le_of_ble_eq_true rfl) (Nat.le_of_ble_eq_true rfl)
    · exact fin (hq.2 (by decide)) hw1 hS1 (Nat.le_of_ble_eq_true rfl) (Nat.le_of_ble_eq_true rfl) dL_done_252
  · refine lv_tableIn hx hb dL_done_1 (by decide) (by decide) (off := 252) (by decide) (tgt := 253) (by decide) ?_
    refine lv_aload_n hx hb dL_done_253 rfl (lv_at hl 0 rfl) ?_
    refine lv_iload_n hx hb dL_done_254 rfl (lv_at hl 2 rfl) ?_
    refine lv_iload_n hx hb dL_done_255 rfl (lv_at hl 3 rfl) ?_
    refine lv_iload hx hb dL_done_256 (lv_at hl 4 rfl) ?_
    have hcal1 : cald 12 cQ_way (.inr (.inr (.inl kQ)) :: [.inl a, .inl b, .inl c9]) M (fun r M' => Xl r (fun v => doneV 15 v fun v' => Q v' M' C) (fun x => (2 ≤ x ∧ x ≤ 5) ∧ Q (noX x) M' C)) := hcal
    refine l_class (kc := 0) hX (nA := 3) (y := cQ_way) (f := nQ_way) rfl (infs_ok cQ_way nQ_way rfl) wD_54 wD_55 wD_56 wD_11 rfl (Nat.le_of_ble_eq_true rfl) (by decide +kernel) (as := [.inl a, .inl b, .inl c9]) rfl rfl hcal1 (Nat.le_of_ble_eq_true rfl) hw hS hl.1 (rest := []) (Nat.zero_le _) dL_done_258 (fun x M' H1 locs1 ce q9 hq hw1 hS1 hce hv hcl => ?_) (fun v M' H1 locs1 hq hw1 hS1 => ?_)
    · exact dn_kx (w := 15) hX htab hl (by decide +kernel) hq.1 hq.2 hw1 hS1 hce hv hcl (Nat.le_of_ble_eq_true rfl) (Nat.le_of_ble_eq_true rfl)
    · exact fin (hq.2 (by decide)) hw1 hS1 (Nat.le_of_ble_eq_true rfl) (Nat.le_of_ble_eq_true rfl) dL_done_261
  · refine lv_tableIn hx hb dL_done_1 (by decide) (by decide) (off := 261) (by decide) (tgt := 262) (by decide) ?_
    refine lv_aload_n hx hb dL_done_262 rfl (lv_at hl 0 rfl) ?_
    refine lv_iload_n hx hb dL_done_263 rfl (lv_at hl 2 rfl) ?_
    have hcal1 : cald 12 cQ_rate (.inr (.inr (.inl kQ)) :: [.inl a]) M (fun r M' => Xl r (fun v => doneV 16 v fun v' => Q v' M' C) (fun x => (2 ≤ x ∧ x ≤ 5) ∧ Q (noX x) M' C)) := hcal
    refine l_class (kc := 0) hX (nA := 1) (y := cQ_rate) (f := nQ_rate) rfl (infs_ok cQ_rate nQ_rate rfl) wD_57 wD_58 wD_59 wD_11 rfl (Nat.le_of_ble_eq_true rfl) (by decide +kernel) (as := [.inl a]) rfl rfl hcal1 (Nat.le_of_ble_eq_true rfl) hw hS hl.1 (rest := []) (Nat.zero_le _) dL_done_264 (fun x M' H1 locs1 ce q9 hq hw1 hS1 hce hv hcl => ?_) (fun v M' H1 locs1 hq hw1 hS1 => ?_)
    · exact dn_kx (w := 16) hX htab hl (by decide +kernel) hq.1 hq.2 hw1 hS1 hce hv hcl (Nat.le_of_ble_eq_true rfl) (Nat.le_of_ble_eq_true rfl)
    · exact fin (hq.2 (by decide)) hw1 hS1 (Nat.le_of_ble_eq_true rfl) (Nat.le_of_ble_eq_true rfl) dL_done_267
  · refine lv_tableIn hx hb dL_done_1 (by decide) (by decide) (off := 267) (by decide) (tgt := 268) (by decide) ?_
    refine lv_aload_n hx hb dL_done_268 rfl (lv_at hl 0 rfl) ?_
    refine lv_iload_n hx hb dL_done_269 rfl (lv_at hl 2 rfl) ?_
    have hcal1 : cald 12 cQ_isStable (.inr (.inr (.inl kQ)) :: [.inl a]) M (fun r M' => Xl r (fun v => doneV 17 v fun v' => Q v' M' C) (fun x => (2 ≤ x ∧ x ≤ 5) ∧ Q (noX x) M' C)) := hcal
    refine l_class (kc := 0) hX (nA := 1) (y := cQ_isStable) (f := nQ_isStable) rfl (infs_ok cQ_isStable nQ_isStable rfl) wD_60 wD_61 wD_62 wD_11 rfl (Nat.le_of_ble_eq_true rfl) (by decide +kernel) (as := [.inl a]) rfl rfl hcal1 (Nat.le_of_ble_eq_true rfl) hw hS hl.1 (rest := []) (Nat.zero_le _) dL_done_270 (fun x M' H1 locs1 ce q9 hq hw1 hS1 hce hv hcl => ?_) (fun v M' H1 locs1 hq hw1 hS1 => ?_)
    · exact dn_kx (w := 17) hX htab hl (by decide +kernel) hq.1 hq.2 hw1 hS1 hce hv hcl (Nat.le_of_ble_eq_true rfl) (Nat.le_of_ble_eq_true rfl)
    · obtain ⟨rv, hq1⟩ := hq.1 rfl
      refine w_if hx hb (x := v) rv (cn := .eq) (tgt := 280) dL_done_273 (by decide) (fun h => ?_) (fun h => ?_)
      · have h : v = 0 := h
        rw [if_pos h] at hq1
        refine lv_iconst (v := Int32.ofInt 0) hx hb dL_done_280 (by decide) ?_
        exact fin hq1 hw1 hS1 (Nat.le_of_ble_eq_true rfl) (Nat.le_of_ble_eq_true rfl) dL_done_281
      · have h : ¬ v = 0 := h
        rw [if_neg h] at hq1
        refine lv_iconst (v := Int32.ofInt 1) hx hb dL_done_276 (by decide) ?_
        refine lv_goto (tgt := 281) hx hb dL_done_277 (by decide) ?_
        exact fin hq1 hw1 hS1 (Nat.le_of_ble_eq_true rfl) (Nat.le_of_ble_eq_true rfl) dL_done_281
  · refine lv_tableIn hx hb dL_done_1 (by decide) (by decide) (off := 281) (by decide) (tgt := 282) (by decide) ?_
    refine lv_aload_n hx hb dL_done_282 rfl (lv_at hl 0 rfl) ?_
    refine lv_iload_n hx hb dL_done_283 rfl (lv_at hl 2 rfl) ?_
    refine lv_iload_n hx hb dL_done_284 rfl (lv_at hl 3 rfl) ?_
    have hcal1 : cald 12 cQ_numbers (.inr (.inr (.inl kQ)) :: [.inl a, .inl b]) M (fun r M' => Xl r (fun v => doneV 18 v fun v' => Q v' M' C) (fun x => (2 ≤ x ∧ x ≤ 5) ∧ Q (noX x) M' C)) := hcal
    refine l_class (kc := 0) hX (nA := 2) (y := cQ_numbers) (f := nQ_numbers) rfl (infs_ok cQ_numbers nQ_numbers rfl) wD_63 wD_64 wD_65 wD_11 rfl (Nat.le_of_ble_eq_true rfl) (by decide +kernel) (as := [.inl a, .inl b]) rfl rfl hcal1 (Nat.le_of_ble_eq_true rfl) hw hS hl.1 (rest := []) (Nat.zero_le _) dL_done_285 (fun x M' H1 locs1 ce q9 hq hw1 hS1 hce hv hcl => ?_) (fun v M' H1 locs1 hq hw1 hS1 => ?_)
    · exact dn_kx (w := 18) hX htab hl (by decide +kernel) hq.1 hq.2 hw1 hS1 hce hv hcl (Nat.le_of_ble_eq_true rfl) (Nat.le_of_ble_eq_true rfl)
    · exact fin (hq.2 (by decide)) hw1 hS1 (Nat.le_of_ble_eq_true rfl) (Nat.le_of_ble_eq_true rfl) dL_done_288
  · refine lv_tableIn hx hb dL_done_1 (by decide) (by decide) (off := 288) (by decide) (tgt := 289) (by decide) ?_
    refine lv_aload_n hx hb dL_done_289 rfl (lv_at hl 0 rfl) ?_
    refine lv_iload_n hx hb dL_done_290 rfl (lv_at hl 2 rfl) ?_
    have hcal1 : cald 12 cQ_growth (.inr (.inr (.inl kQ)) :: [.inl a]) M (fun r M' => Xl r (fun v => doneV 19 v fun v' => Q v' M' C) (fun x => (2 ≤ x ∧ x ≤ 5) ∧ Q (noX x) M' C)) := hcal
    refine l_class (kc := 0) hX (nA := 1) (y := cQ_growth) (f := nQ_growth) rfl (infs_ok cQ_growth nQ_growth rfl) wD_66 wD_67 wD_68 wD_11 rfl (Nat.le_of_ble_eq_true rfl) (by decide +kernel) (as := [.inl a]) rfl rfl hcal1 (Nat.le_of_ble_eq_true rfl) hw hS hl.1 (rest := []) (Nat.zero_le _) dL_done_291 (fun x M' H1 locs1 ce q9 hq hw1 hS1 hce hv hcl => ?_) (fun v M' H1 locs1 hq hw1 hS1 => ?_)
    · exact dn_kx (w := 19) hX htab hl (by decide +kernel) hq.1 hq.2 hw1 hS1 hce hv hcl (Nat.le_of_ble_eq_true rfl) (Nat.le_of_ble_eq_true rfl)
    · exact fin (hq.2 (by decide)) hw1 hS1 (Nat.le_of_ble_eq_true rfl) (Nat.le_of_ble_eq_true rfl) dL_done_294
  · refine lv_tableIn hx hb dL_done_1 (by decide) (by decide) (off := 294) (by decide) (tgt := 295) (by decide) ?_
    refine lv_aload_n hx hb dL_done_295 rfl (lv_at hl 0 rfl) ?_
    refine lv_iload_n hx hb dL_done_296 rfl (lv_at hl 2 rfl) ?_
    refine lv_iload_n hx hb dL_done_297 rfl (lv_at hl 3 rfl) ?_
    have hcal1 : cald 12 cQ_closed (.inr (.inr (.inl kQ)) :: [.inl a, .inl b]) M (fun r M' => Xl r (fun v => doneV 20 v fun v' => Q v' M' C) (fun x => (2 ≤ x ∧ x ≤ 5) ∧ Q (noX x) M' C)) := hcal
    refine l_class (kc := 0) hX (nA := 2) (y := cQ_closed) (f := nQ_closed) rfl (infs_ok cQ_closed nQ_closed rfl) wD_69 wD_70 wD_71 wD_11 rfl (Nat.le_of_ble_eq_true rfl) (by decide +kernel) (as := [.inl a, .inl b]) rfl rfl hcal1 (Nat.le_of_ble_eq_true rfl) hw hS hl.1 (rest := []) (Nat.zero_le _) dL_done_298 (fun x M' H1 locs1 ce q9 hq hw1 hS1 hce hv hcl => ?_) (fun v M' H1 locs1 hq hw1 hS1 => ?_)
    · exact dn_kx (w := 20) hX htab hl (by decide +kernel) hq.1 hq.2 hw1 hS1 hce hv hcl (Nat.le_of_ble_eq_true rfl) (Nat.le_of_ble_eq_true rfl)
    · exact fin (hq.2 (by decide)) hw1 hS1 (Nat.le_of_ble_eq_true rfl) (Nat.le_of_ble_eq_true rfl) dL_done_301
  · refine lv_tableIn hx hb dL_done_1 (by decide) (by decide) (off := 301) (by decide) (tgt := 302) (by decide) ?_
    refine lv_aload_n hx hb dL_done_302 rfl (lv_at hl 0 rfl) ?_
    refine lv_iload_n hx hb dL_done_303 rfl (lv_at hl 2 rfl) ?_
    refine lv_iload_n hx hb dL_done_304 rfl (lv_at hl 3 rfl) ?_
    refine lv_iload hx hb dL_done_305 (lv_at hl 4 rfl) ?_
    have hcal1 : cald 12 cQ_envelope (.inr (.inr (.inl kQ)) :: [.inl a, .inl b, .inl c9]) M (fun r M' => Xl r (fun v => doneV 21 v fun v' => Q v' M' C) (fun x => (2 ≤ x ∧ x ≤ 5) ∧ Q (noX x) M' C)) := hcal
    refine l_class (kc := 0) hX (nA := 3) (y := cQ_envelope) (f := nQ_envelope) rfl (infs_ok cQ_envelope nQ_envelope rfl) wD_72 wD_73 wD_74 wD_11 rfl (Nat.le_of_ble_eq_true rfl) (by decide +kernel) (as := [.inl a, .inl b, .inl c9]) rfl rfl hcal1 (Nat.le_of_ble_eq_true rfl) hw hS hl.1 (rest := []) (Nat.zero_le _) dL_done_307 (fun x M' H1 locs1 ce q9 hq hw1 hS1 hce hv hcl => ?_) (fun v M' H1 locs1 hq hw1 hS1 => ?_)
    · exact dn_kx (w := 21) hX htab hl (by decide +kernel) hq.1 hq.2 hw1 hS1 hce hv hcl (Nat.le_of_ble_eq_true rfl) (Nat.le_of_ble_eq_true rfl)
    · exact fin (hq.2 (by decide)) hw1 hS1 (Nat.le_of_ble_eq_true rfl) (Nat.le_of_ble_eq_true rfl) dL_done_310
  · refine lv_tableIn hx hb dL_done_1 (by decide) (by decide) (off := 310) (by decide) (tgt := 311) (by decide) ?_
    refine lv_aload_n hx hb dL_done_311 rfl (lv_at hl 0 rfl) ?_
    refine lv_iload_n hx hb dL_done_312 rfl (lv_at hl 2 rfl) ?_
    refine lv_iload_n hx hb dL_done_313 rfl (lv_at hl 3 rfl) ?_
    refine lv_iload hx hb dL_done_314 (lv_at hl 4 rfl) ?_
    have hcal1 : cald 12 cQ_server (.inr (.inr (.inl kQ)) :: [.inl a, .inl b, .inl c9]) M (fun r M' => Xl r (fun v => doneV 22 v fun v' => Q v' M' C) (fun x => (2 ≤ x ∧ x ≤ 5) ∧ Q (noX x) M' C)) := hcal
    refine l_class (kc := 0) hX (nA := 3) (y := cQ_server) (f := nQ_server) rfl (infs_ok cQ_server nQ_server rfl) wD_75 wD_76 wD_77 wD_11 rfl (Nat.le_of_ble_eq_true rfl) (by decide +kernel) (as := [.inl a, .inl b, .inl c9]) rfl rfl hcal1 (Nat.le_of_ble_eq_true rfl) hw hS hl.1 (rest := []) (Nat.zero_le _) dL_done_316 (fun x M' H1 locs1 ce q9 hq hw1 hS1 hce hv hcl => ?_) (fun v M' H1 locs1 hq hw1 hS1 => ?_)
    · exact dn_kx (w := 22) hX htab hl (by decide +kernel) hq.1 hq.2 hw1 hS1 hce hv hcl (Nat.le_of_ble_eq_true rfl) (Nat.le_of_ble_eq_true rfl)
    · exact fin (hq.2 (by decide)) hw1 hS1 (Nat.le_of_ble_eq_true rfl) (Nat.le_of_ble_eq_true rfl) dL_done_319
  · refine lv_tableIn hx hb dL_done_1 (by decide) (by decide) (off := 319) (by decide) (tgt := 320) (by decide) ?_
    refine lv_aload_n hx hb dL_done_320 rfl (lv_at hl 0 rfl) ?_
    refine lv_iload_n hx hb dL_done_321 rfl (lv_at hl 2 rfl) ?_
    refine lv_iconst (v := Int32.ofInt 1) hx hb dL_done_322 (by decide) ?_
    refine w_icmp hx hb (x := a) (y := 1) ra ⟨by decide, by decide⟩ (cn := .ne) (tgt := 330) dL_done_323 (by decide) (fun h => ?_) (fun h => ?_)
    · have h : ¬ a = 1 := h
      refine lv_iconst (v := Int32.ofInt 0) hx hb dL_done_330 (by decide) ?_
      have e9 : decide (a = 1) = false := decide_eq_false h
      have hcal1 : cald 12 cQ_bound (.inr (.inr (.inl kQ)) :: [.inl 0]) M (fun r M' => Xl r (fun v => doneV 23 v fun v' => Q v' M' C) (fun x => (2 ≤ x ∧ x ≤ 5) ∧ Q (noX x) M' C)) := (by have h8 : cald 12 cQ_bound (.inr (.inr (.inl kQ)) :: [b01 (decide (a = 1))]) M (fun r M' => Xl r (fun v => doneV 23 v fun v' => Q v' M' C) (fun x => (2 ≤ x ∧ x ≤ 5) ∧ Q (noX x) M' C)) := hcal; rw [e9] at h8; exact h8)
      refine l_class (kc := 0) hX (nA := 1) (y := cQ_bound) (f := nQ_bound) rfl (infs_ok cQ_bound nQ_bound rfl) wD_78 wD_79 wD_80 wD_11 rfl (Nat.le_of_ble_eq_true rfl) (by decide +kernel) (as := [.inl 0]) rfl rfl hcal1 (Nat.le_of_ble_eq_true rfl) hw hS hl.1 (rest := []) (Nat.zero_le _) dL_done_331 (fun x M' H1 locs1 ce q9 hq hw1 hS1 hce hv hcl => ?_) (fun v M' H1 locs1 hq hw1 hS1 => ?_)
      · exact dn_kx (w := 23) hX htab hl (by decide +kernel) hq.1 hq.2 hw1 hS1 hce hv hcl (Nat.le_of_ble_eq_true rfl) (Nat.le_of_ble_eq_true rfl)
      · exact fin (hq.2 (by decide)) hw1 hS1 (Nat.le_of_ble_eq_true rfl) (Nat.le_of_ble_eq_true rfl) dL_done_334
    · have h : a = 1 := Decidable.not_not.mp h
      refine lv_iconst (v := Int32.ofInt 1) hx hb dL_done_326 (by decide) ?_
      refine lv_goto (tgt := 331) hx hb dL_done_327 (by decide) ?_
      have e9 : decide (a = 1) = true := decide_eq_true h
      have hcal1 : cald 12 cQ_bound (.inr (.inr (.inl kQ)) :: [.inl 1]) M (fun r M' => Xl r (fun v => doneV 23 v fun v' => Q v' M' C) (fun x => (2 ≤ x ∧ x ≤ 5) ∧ Q (noX x) M' C)) := (by have h8 : cald 12 cQ_bound (.inr (.inr (.inl kQ)) :: [b01 (decide (a = 1))]) M (fun r M' => Xl r (fun v => doneV 23 v fun v' => Q v' M' C) (fun x => (2 ≤ x ∧ x ≤ 5) ∧ Q (noX x) M' C)) := hcal; rw [e9] at h8; exact h8)
      refine l_class (kc := 0) hX (nA := 1) (y := cQ_bound) (f := nQ_bound) rfl (infs_ok cQ_bound nQ_bound rfl) wD_78 wD_79 wD_80 wD_11 rfl (Nat.le_of_ble_eq_true rfl) (by decide +kernel) (as := [.inl 1]) rfl rfl hcal1 (Nat.le_of_ble_eq_true rfl) hw hS hl.1 (rest := []) (Nat.zero_le _) dL_done_331 (fun x M' H1 locs1 ce q9 hq hw1 hS1 hce hv hcl => ?_) (fun v M' H1 locs1 hq hw1 hS1 => ?_)
      · exact dn_kx (w := 23) hX htab hl (by decide +kernel) hq.1 hq.2 hw1 hS1 hce hv hcl (Nat.le_of_ble_eq_true rfl) (Nat.le_of_ble_eq_true rfl)
      · exact fin (hq.2 (by decide)) hw1 hS1 (Nat.le_of_ble_eq_true rfl) (Nat.le_of_ble_eq_true rfl) dL_done_334
  · refine lv_tableIn hx hb dL_done_1 (by decide) (by decide) (off := 334) (by decide) (tgt := 335) (by decide) ?_
    refine lv_aload_n hx hb dL_done_335 rfl (lv_at hl 0 rfl) ?_
    refine lv_iload_n hx hb dL_done_336 rfl (lv_at hl 2 rfl) ?_
    refine lv_iload_n hx hb dL_done_337 rfl (lv_at hl 3 rfl) ?_
    refine lv_iload hx hb dL_done_338 (lv_at hl 4 rfl) ?_
    have hcal1 : cald 12 cQ_option (.inr (.inr (.inl kQ)) :: [.inl a, .inl b, .inl c9]) M (fun r M' => Xl r (fun v => doneV 24 v fun v' => Q v' M' C) (fun x => (2 ≤ x ∧ x ≤ 5) ∧ Q (noX x) M' C)) := hcal
    refine l_class (kc := 0) hX (nA := 3) (y := cQ_option) (f := nQ_option) rfl (infs_ok cQ_option nQ_option rfl) wD_81 wD_82 wD_83 wD_11 rfl (Nat.le_of_ble_eq_true rfl) (by decide +kernel) (as := [.inl a, .inl b, .inl c9]) rfl rfl hcal1 (Nat.le_of_ble_eq_true rfl) hw hS hl.1 (rest := []) (Nat.zero_le _) dL_done_340 (fun x M' H1 locs1 ce q9 hq hw1 hS1 hce hv hcl => ?_) (fun v M' H1 locs1 hq hw1 hS1 => ?_)
    · exact dn_kx (w := 24) hX htab hl (by decide +kernel) hq.1 hq.2 hw1 hS1 hce hv hcl (Nat.le_of_ble_eq_true rfl) (Nat.le_of_ble_eq_true rfl)
    · exact fin (hq.2 (by decide)) hw1 hS1 (Nat.le_of_ble_eq_true rfl) (Nat.le_of_ble_eq_true rfl) dL_done_343
  · refine lv_tableIn hx hb dL_done_1 (by decide) (by decide) (off := 343) (by decide) (tgt := 344) (by decide) ?_
    refine lv_aload_n hx hb dL_done_344 rfl (lv_at hl 0 rfl) ?_
    refine lv_iload_n hx hb dL_done_345 rfl (lv_at hl 2 rfl) ?_
    refine lv_iload_n hx hb dL_done_346 rfl (lv_at hl 3 rfl) ?_
    refine lv_iload hx hb dL_done_347 (lv_at hl 4 rfl) ?_
    refine lv_iconst (v := Int32.ofInt 1) hx hb dL_done_349 (by decide) ?_
    refine w_icmp hx hb (x := c9) (y := 1) rc ⟨by decide, by decide⟩ (cn := .ne) (tgt := 357) dL_done_350 (by decide) (fun h => ?_) (fun h => ?_)
    · have h : ¬ c9 = 1 := h
      refine lv_iconst (v := Int32.ofInt 0) hx hb dL_done_357 (by decide) ?_
      have e9 : decide (c9 = 1) = false := decide_eq_false h
      have hcal1 : cald 12 cQ_split (.inr (.inr (.inl kQ)) :: [.inl a, .inl b, .inl 0]) M (fun r M' => Xl r (fun v => doneV 25 v fun v' => Q v' M' C) (fun x => (2 ≤ x ∧ x ≤ 5) ∧ Q (noX x) M' C)) := (by have h8 : cald 12 cQ_split (.inr (.inr (.inl kQ)) :: [.inl a, .inl b, b01 (decide (c9 = 1))]) M (fun r M' => Xl r (fun v => doneV 25 v fun v' => Q v' M' C) (fun x => (2 ≤ x ∧ x ≤ 5) ∧ Q (noX x) M' C)) := hcal; rw [e9] at h8; exact h8)
      refine l_class (kc := 0) hX (nA := 3) (y := cQ_split) (f := nQ_split) rfl (infs_ok cQ_split nQ_split rfl) wD_84 wD_85 wD_86 wD_11 rfl (Nat.le_of_ble_eq_true rfl) (by decide +kernel) (as := [.inl a, .inl b, .inl 0]) rfl rfl hcal1 (Nat.le_of_ble_eq_true rfl) hw hS hl.1 (rest := []) (Nat.zero_le _) dL_done_358 (fun x M' H1 locs1 ce q9 hq hw1 hS1 hce hv hcl => ?_) (fun v M' H1 locs1 hq hw1 hS1 => ?_)
      · exact dn_kx (w := 25) hX htab hl (by decide +kernel) hq.1 hq.2 hw1 hS1 hce hv hcl (Nat.le_of_ble_eq_true rfl) (Nat.le_of_ble_eq_true rfl)
      · exact fin (hq.2 (by decide)) hw1 hS1 (Nat.le_of_ble_eq_true rfl) (Nat.le_of_ble_eq_true rfl) dL_done_361
    · have h : c9 = 1 := Decidable.not_not.mp h
      refine lv_iconst (v := Int32.ofInt 1) hx hb dL_done_353 (by decide) ?_
      refine lv_goto (tgt := 358) hx hb dL_done_354 (by decide) ?_
      have e9 : decide (c9 = 1) = true := decide_eq_true h
      have hcal1 : cald 12 cQ_split (.inr (.inr (.inl kQ)) :: [.inl a, .inl b, .inl 1]) M (fun r M' => Xl r (fun v => doneV 25 v fun v' => Q v' M' C) (fun x => (2 ≤ x ∧ x ≤ 5) ∧ Q (noX x) M' C)) := (by have h8 : cald 12 cQ_split (.inr (.inr (.inl kQ)) :: [.inl a, .inl b, b01 (decide (c9 = 1))]) M (fun r M' => Xl r (fun v => doneV 25 v fun v' => Q v' M' C) (fun x => (2 ≤ x ∧ x ≤ 5) ∧ Q (noX x) M' C)) := hcal; rw [e9] at h8; exact h8)
      refine l_class (kc := 0) hX (nA := 3) (y := cQ_split) (f := nQ_split) rfl (infs_ok cQ_split nQ_split rfl) wD_84 wD_85 wD_86 wD_11 rfl (Nat.le_of_ble_eq_true rfl) (by decide +kernel) (as := [.inl a, .inl b, .inl 1]) rfl rfl hcal1 (Nat.le_of_ble_eq_true rfl) hw hS hl.1 (rest := []) (Nat.zero_le _) dL_done_358 (fun x M' H1 locs1 ce q9 hq hw1 hS1 hce hv hcl => ?_) (fun v M' H1 locs1 hq hw1 hS1 => ?_)
      · exact dn_kx (w := 25) hX htab hl (by decide +kernel) hq.1 hq.2 hw1 hS1 hce hv hcl (Nat.le_of_ble_eq_true rfl) (Nat.le_of_ble_eq_true rfl)
      · exact fin (hq.2 (by decide)) hw1 hS1 (Nat.le_of_ble_eq_true rfl) (Nat.le_of_ble_eq_true rfl) dL_done_361
  · refine lv_tableIn hx hb dL_done_1 (by decide) (by decide) (off := 361) (by decide) (tgt := 362) (by decide) ?_
    refine lv_aload_n hx hb dL_done_362 rfl (lv_at hl 0 rfl) ?_
    refine lv_iload_n hx hb dL_done_363 rfl (lv_at hl 2 rfl) ?_
    have hcal1 : cald 12 cQ_price (.inr (.inr (.inl kQ)) :: [.inl a]) M (fun r M' => Xl r (fun v => doneV 26 v fun v' => Q v' M' C) (fun x => (2 ≤ x ∧ x ≤ 5) ∧ Q (noX x) M' C)) := hcal
    refine l_class (kc := 0) hX (nA := 1) (y := cQ_price) (f := nQ_price) rfl (infs_ok cQ_price nQ_price rfl) wD_87 wD_88 wD_89 wD_11 rfl (Nat.le_of_ble_eq_true rfl) (by decide +kernel) (as := [.inl a]) rfl rfl hcal1 (Nat.le_of_ble_eq_true rfl) hw hS hl.1 (rest := []) (Nat.zero_le _) dL_done_364 (fun x M' H1 locs1 ce q9 hq hw1 hS1 hce hv hcl => ?_) (fun v M' H1 locs1 hq hw1 hS1 => ?_)
    · exact dn_kx (w := 26) hX htab hl (by decide +kernel) hq.1 hq.2 hw1 hS1 hce hv hcl (Nat.le_of_ble_eq_true rfl) (Nat.le_of_ble_eq_true rfl)
    · exact fin (hq.2 (by decide)) hw1 hS1 (Nat.le_of_ble_eq_true rfl) (Nat.le_of_ble_eq_true rfl) dL_done_367
  · refine lv_tableIn hx hb dL_done_1 (by decide) (by decide) (off := 367) (by decide) (tgt := 368) (by decide) ?_
    refine lv_aload_n hx hb dL_done_368 rfl (lv_at hl 0 rfl) ?_
    have hcal1 : cald 12 cQ_read (.inr (.inr (.inl kQ)) :: []) M (fun r M' => Xl r (fun v => doneV 27 v fun v' => Q v' M' C) (fun x => (2 ≤ x ∧ x ≤ 5) ∧ Q (noX x) M' C)) := hcal
    refine l_class (kc := 0) hX (nA := 0) (y := cQ_read) (f := nQ_read) rfl (infs_ok cQ_read nQ_read rfl) wD_90 wD_91 wD_92 wD_11 rfl (Nat.le_of_ble_eq_true rfl) (by decide +kernel) (as := []) rfl rfl hcal1 (Nat.le_of_ble_eq_true rfl) hw hS hl.1 (rest := []) (Nat.zero_le _) dL_done_369 (fun x M' H1 locs1 ce q9 hq hw1 hS1 hce hv hcl => ?_) (fun v M' H1 locs1 hq hw1 hS1 => ?_)
    · exact dn_kx (w := 27) hX htab hl (by decide +kernel) hq.1 hq.2 hw1 hS1 hce hv hcl (Nat.le_of_ble_eq_true rfl) (Nat.le_of_ble_eq_true rfl)
    · exact fin (hq.2 (by decide)) hw1 hS1 (Nat.le_of_ble_eq_true rfl) (Nat.le_of_ble_eq_true rfl) dL_done_372
  · refine lv_tableIn hx hb dL_done_1 (by decide) (by decide) (off := 372) (by decide) (tgt := 373) (by decide) ?_
    refine lv_aload_n hx hb dL_done_373 rfl (lv_at hl 0 rfl) ?_
    have hcal1 : cald 12 cQ_undo (.inr (.inr (.inl kQ)) :: []) M (fun r M' => Xl r (fun v => doneV 28 v fun v' => Q v' M' C) (fun x => (2 ≤ x ∧ x ≤ 5) ∧ Q (noX x) M' C)) := hcal
    refine l_class (kc := 0) hX (nA := 0) (y := cQ_undo) (f := nQ_undo) rfl (infs_ok cQ_undo nQ_undo rfl) wD_93 wD_94 wD_95 wD_11 rfl (Nat.le_of_ble_eq_true rfl) (by decide +kernel) (as := []) rfl rfl hcal1 (Nat.le_of_ble_eq_true rfl) hw hS hl.1 (rest := []) (Nat.zero_le _) dL_done_374 (fun x M' H1 locs1 ce q9 hq hw1 hS1 hce hv hcl => ?_) (fun v M' H1 locs1 hq hw1 hS1 => ?_)
    · exact dn_kx (w := 28) hX htab hl (by decide +kernel) hq.1 hq.2 hw1 hS1 hce hv hcl (Nat.le_of_ble_eq_true rfl) (Nat.le_of_ble_eq_true rfl)
    · exact fin (hq.2 (by decide)) hw1 hS1 (Nat.le_of_ble_eq_true rfl) (Nat.le_of_ble_eq_true rfl) dL_done_377
  · refine lv_tableOut hx hb dL_done_1 (Or.inr (by decide)) (tgt := 378) (by decide) ?_
    refine lv_aload_n hx hb dL_done_378 rfl (lv_at hl 0 rfl) ?_
    have hcal1 : cald 12 cQ_write (.inr (.inr (.inl kQ)) :: []) M (fun r M' => Xl r (fun v => doneV 29 v fun v' => Q v' M' C) (fun x => (2 ≤ x ∧ x ≤ 5) ∧ Q (noX x) M' C)) := hcal
    refine l_class (kc := 0) hX (nA := 0) (y := cQ_write) (f := nQ_write) rfl (infs_ok cQ_write nQ_write rfl) wD_96 wD_97 wD_98 wD_11 rfl (Nat.le_of_ble_eq_true rfl) (by decide +kernel) (as := []) rfl rfl hcal1 (Nat.le_of_ble_eq_true rfl) hw hS hl.1 (rest := []) (Nat.zero_le _) dL_done_379 (fun x M' H1 locs1 ce q9 hq hw1 hS1 hce hv hcl => ?_) (fun v M' H1 locs1 hq hw1 hS1 => ?_)
    · exact dn_kx (w := 29) hX htab hl (by decide +kernel) hq.1 hq.2 hw1 hS1 hce hv hcl (Nat.le_of_ble_eq_true rfl) (Nat.le_of_ble_eq_true rfl)
    · exact fin (hq.2 (by decide)) hw1 hS1 (Nat.le_of_ble_eq_true rfl) (Nat.le_of_ble_eq_true rfl) dL_done_382
