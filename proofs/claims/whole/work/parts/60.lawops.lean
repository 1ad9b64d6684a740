/-! THE LAW'S LOOP (printed by wip/whole/mklaw.py) -/
theorem dl_0 : decode code 0 = .ok (.new 7, 3) := by decide +kernel
theorem dl_3 : decode code 3 = .ok (.dup, 1) := by decide +kernel
theorem dl_4 : decode code 4 = .ok (.invokespecial 9, 3) := by decide +kernel
theorem dl_7 : decode code 7 = .ok (.astore_n 1, 1) := by decide +kernel
theorem dl_8 : decode code 8 = .ok (.new 10, 3) := by decide +kernel
theorem dl_11 : decode code 11 = .ok (.dup, 1) := by decide +kernel
theorem dl_12 : decode code 12 = .ok (.invokespecial 12, 3) := by decide +kernel
theorem dl_15 : decode code 15 = .ok (.astore_n 2, 1) := by decide +kernel
theorem dl_16 : decode code 16 = .ok (.iconst 0, 1) := by decide +kernel
theorem dl_17 : decode code 17 = .ok (.istore_n 3, 1) := by decide +kernel
theorem dl_18 : decode code 18 = .ok (.iload_n 3, 1) := by decide +kernel
theorem dl_19 : decode code 19 = .ok (.aload_n 0, 1) := by decide +kernel
theorem dl_20 : decode code 20 = .ok (.arraylength, 1) := by decide +kernel
theorem dl_21 : decode code 21 = .ok (.iconst 3, 1) := by decide +kernel
theorem dl_22 : decode code 22 = .ok (.isub, 1) := by decide +kernel
theorem dl_23 : decode code 23 = .ok (.if_icmp .gt 410, 3) := by decide +kernel
theorem dl_26 : decode code 26 = .ok (.aload_n 0, 1) := by decide +kernel
theorem dl_27 : decode code 27 = .ok (.iload_n 3, 1) := by decide +kernel
theorem dl_28 : decode code 28 = .ok (.iaload, 1) := by decide +kernel
theorem dl_29 : decode code 29 = .ok (.bipush 15, 2) := by decide +kernel
theorem dl_31 : decode code 31 = .ok (.iand, 1) := by decide +kernel
theorem dl_32 : decode code 32 = .ok (.tableswitch 395 0 13 #[72, 95, 108, 121, 154, 177, 210, 233, 256, 289, 312, 345, 358, 381], 72) := by decide +kernel
theorem dl_104 : decode code 104 = .ok (.aload_n 1, 1) := by decide +kernel
theorem dl_105 : decode code 105 = .ok (.aload_n 0, 1) := by decide +kernel
theorem dl_106 : decode code 106 = .ok (.iload_n 3, 1) := by decide +kernel
theorem dl_107 : decode code 107 = .ok (.iconst 1, 1) := by decide +kernel
theorem dl_108 : decode code 108 = .ok (.iadd, 1) := by decide +kernel
theorem dl_109 : decode code 109 = .ok (.iaload, 1) := by decide +kernel
theorem dl_110 : decode code 110 = .ok (.invokevirtual 13, 3) := by decide +kernel
theorem dl_113 : decode code 113 = .ok (.aload_n 2, 1) := by decide +kernel
theorem dl_114 : decode code 114 = .ok (.aload_n 0, 1) := by decide +kernel
theorem dl_115 : decode code 115 = .ok (.iload_n 3, 1) := by decide +kernel
theorem dl_116 : decode code 116 = .ok (.iconst 1, 1) := by decide +kernel
theorem dl_117 : decode code 117 = .ok (.iadd, 1) := by decide +kernel
theorem dl_118 : decode code 118 = .ok (.iaload, 1) := by decide +kernel
theorem dl_119 : decode code 119 = .ok (.invokevirtual 17, 3) := by decide +kernel
theorem dl_122 : decode code 122 = .ok (.if_icmp .eq 305, 3) := by decide +kernel
theorem dl_125 : decode code 125 = .ok (.iconst 0, 1) := by decide +kernel
theorem dl_126 : decode code 126 = .ok (.ireturn, 1) := by decide +kernel
theorem dl_127 : decode code 127 = .ok (.aload_n 1, 1) := by decide +kernel
theorem dl_128 : decode code 128 = .ok (.invokevirtual 18, 3) := by decide +kernel
theorem dl_131 : decode code 131 = .ok (.aload_n 2, 1) := by decide +kernel
theorem dl_132 : decode code 132 = .ok (.invokevirtual 22, 3) := by decide +kernel
theorem dl_135 : decode code 135 = .ok (.if_icmp .eq 292, 3) := by decide +kernel
theorem dl_138 : decode code 138 = .ok (.iconst 0, 1) := by decide +kernel
theorem dl_139 : decode code 139 = .ok (.ireturn, 1) := by decide +kernel
theorem dl_140 : decode code 140 = .ok (.aload_n 1, 1) := by decide +kernel
theorem dl_141 : decode code 141 = .ok (.invokevirtual 23, 3) := by decide +kernel
theorem dl_144 : decode code 144 = .ok (.aload_n 2, 1) := by decide +kernel
theorem dl_145 : decode code 145 = .ok (.invokevirtual 26, 3) := by decide +kernel
theorem dl_148 : decode code 148 = .ok (.if_icmp .eq 279, 3) := by decide +kernel
theorem dl_151 : decode code 151 = .ok (.iconst 0, 1) := by decide +kernel
theorem dl_152 : decode code 152 = .ok (.ireturn, 1) := by decide +kernel
theorem dl_153 : decode code 153 = .ok (.aload_n 1, 1) := by decide +kernel
theorem dl_154 : decode code 154 = .ok (.aload_n 0, 1) := by decide +kernel
theorem dl_155 : decode code 155 = .ok (.iload_n 3, 1) := by decide +kernel
theorem dl_156 : decode code 156 = .ok (.iconst 1, 1) := by decide +kernel
theorem dl_157 : decode code 157 = .ok (.iadd, 1) := by decide +kernel
theorem dl_158 : decode code 158 = .ok (.iaload, 1) := by decide +kernel
theorem dl_159 : decode code 159 = .ok (.aload_n 0, 1) := by decide +kernel
theorem dl_160 : decode code 160 = .ok (.iload_n 3, 1) := by decide +kernel
theorem dl_161 : decode code 161 = .ok (.iconst 2, 1) := by decide +kernel
theorem dl_162 : decode code 162 = .ok (.iadd, 1) := by decide +kernel
theorem dl_163 : decode code 163 = .ok (.iaload, 1) := by decide +kernel
theorem dl_164 : decode code 164 = .ok (.invokevirtual 27, 3) := by decide +kernel
theorem dl_167 : decode code 167 = .ok (.aload_n 2, 1) := by decide +kernel
theorem dl_168 : decode code 168 = .ok (.aload_n 0, 1) := by decide +kernel
theorem dl_169 : decode code 169 = .ok (.iload_n 3, 1) := by decide +kernel
theorem dl_170 : decode code 170 = .ok (.iconst 1, 1) := by decide +kernel
theorem dl_171 : decode code 171 = .ok (.iadd, 1) := by decide +kernel
theorem dl_172 : decode code 172 = .ok (.iaload, 1) := by decide +kernel
theorem dl_173 : decode code 173 = .ok (.aload_n 0, 1) := by decide +kernel
theorem dl_174 : decode code 174 = .ok (.iload_n 3, 1) := by decide +kernel
theorem dl_175 : decode code 175 = .ok (.iconst 2, 1) := by decide +kernel
theorem dl_176 : decode code 176 = .ok (.iadd, 1) := by decide +kernel
theorem dl_177 : decode code 177 = .ok (.iaload, 1) := by decide +kernel
theorem dl_178 : decode code 178 = .ok (.invokevirtual 31, 3) := by decide +kernel
theorem dl_181 : decode code 181 = .ok (.if_icmp .eq 246, 3) := by decide +kernel
theorem dl_184 : decode code 184 = .ok (.iconst 0, 1) := by decide +kernel
theorem dl_185 : decode code 185 = .ok (.ireturn, 1) := by decide +kernel
theorem dl_186 : decode code 186 = .ok (.aload_n 1, 1) := by decide +kernel
theorem dl_187 : decode code 187 = .ok (.aload_n 0, 1) := by decide +kernel
theorem dl_188 : decode code 188 = .ok (.iload_n 3, 1) := by decide +kernel
theorem dl_189 : decode code 189 = .ok (.iconst 1, 1) := by decide +kernel
theorem dl_190 : decode code 190 = .ok (.iadd, 1) := by decide +kernel
theorem dl_191 : decode code 191 = .ok (.iaload, 1) := by decide +kernel
theorem dl_192 : decode code 192 = .ok (.invokevirtual 32, 3) := by decide +kernel
theorem dl_195 : decode code 195 = .ok (.aload_n 2, 1) := by decide +kernel
theorem dl_196 : decode code 196 = .ok (.aload_n 0, 1) := by decide +kernel
theorem dl_197 : decode code 197 = .ok (.iload_n 3, 1) := by decide +kernel
theorem dl_198 : decode code 198 = .ok (.iconst 1, 1) := by decide +kernel
theorem dl_199 : decode code 199 = .ok (.iadd, 1) := by decide +kernel
theorem dl_200 : decode code 200 = .ok (.iaload, 1) := by decide +kernel
theorem dl_201 : decode code 201 = .ok (.invokevirtual 35, 3) := by decide +kernel
theorem dl_204 : decode code 204 = .ok (.if_icmp .eq 223, 3) := by decide +kernel
theorem dl_207 : decode code 207 = .ok (.iconst 0, 1) := by decide +kernel
theorem dl_208 : decode code 208 = .ok (.ireturn, 1) := by decide +kernel
theorem dl_209 : decode code 209 = .ok (.aload_n 1, 1) := by decide +kernel
theorem dl_210 : decode code 210 = .ok (.aload_n 0, 1) := by decide +kernel
theorem dl_211 : decode code 211 = .ok (.iload_n 3, 1) := by decide +kernel
theorem dl_212 : decode code 212 = .ok (.iconst 1, 1) := by decide +kernel
theorem dl_213 : decode code 213 = .ok (.iadd, 1) := by decide +kernel
theorem dl_214 : decode code 214 = .ok (.iaload, 1) := by decide +kernel
theorem dl_215 : decode code 215 = .ok (.aload_n 0, 1) := by decide +kernel
theorem dl_216 : decode code 216 = .ok (.iload_n 3, 1) := by decide +kernel
theorem dl_217 : decode code 217 = .ok (.iconst 2, 1) := by decide +kernel
theorem dl_218 : decode code 218 = .ok (.iadd, 1) := by decide +kernel
theorem dl_219 : decode code 219 = .ok (.iaload, 1) := by decide +kernel
theorem dl_220 : decode code 220 = .ok (.invokevirtual 36, 3) := by decide +kernel
theorem dl_223 : decode code 223 = .ok (.aload_n 2, 1) := by decide +kernel
theorem dl_224 : decode code 224 = .ok (.aload_n 0, 1) := by decide +kernel
theorem dl_225 : decode code 225 = .ok (.iload_n 3, 1) := by decide +kernel
theorem dl_226 : decode code 226 = .ok (.iconst 1, 1) := by decide +kernel
theorem dl_227 : decode code 227 = .ok (.iadd, 1) := by decide +kernel
theorem dl_228 : decode code 228 = .ok (.iaload, 1) := by decide +kernel
theorem dl_229 : decode code 229 = .ok (.aload_n 0, 1) := by decide +kernel
theorem dl_230 : decode code 230 = .ok (.iload_n 3, 1) := by decide +kernel
theorem dl_231 : decode code 231 = .ok (.iconst 2, 1) := by decide +kernel
theorem dl_232 : decode code 232 = .ok (.iadd, 1) := by decide +kernel
theorem dl_233 : decode code 233 = .ok (.iaload, 1) := by decide +kernel
theorem dl_234 : decode code 234 = .ok (.invokevirtual 39, 3) := by decide +kernel
theorem dl_237 : decode code 237 = .ok (.if_icmp .eq 190, 3) := by decide +kernel
theorem dl_240 : decode code 240 = .ok (.iconst 0, 1) := by decide +kernel
theorem dl_241 : decode code 241 = .ok (.ireturn, 1) := by decide +kernel
theorem dl_242 : decode code 242 = .ok (.aload_n 1, 1) := by decide +kernel
theorem dl_243 : decode code 243 = .ok (.aload_n 0, 1) := by decide +kernel
theorem dl_244 : decode code 244 = .ok (.iload_n 3, 1) := by decide +kernel
theorem dl_245 : decode code 245 = .ok (.iconst 1, 1) := by decide +kernel
theorem dl_246 : decode code 246 = .ok (.iadd, 1) := by decide +kernel
theorem dl_247 : decode code 247 = .ok (.iaload, 1) := by decide +kernel
theorem dl_248 : decode code 248 = .ok (.invokevirtual 40, 3) := by decide +kernel
theorem dl_251 : decode code 251 = .ok (.aload_n 2, 1) := by decide +kernel
theorem dl_252 : decode code 252 = .ok (.aload_n 0, 1) := by decide +kernel
theorem dl_253 : decode code 253 = .ok (.iload_n 3, 1) := by decide +kernel
theorem dl_254 : decode code 254 = .ok (.iconst 1, 1) := by decide +kernel
theorem dl_255 : decode code 255 = .ok (.iadd, 1) := by decide +kernel
theorem dl_256 : decode code 256 = .ok (.iaload, 1) := by decide +kernel
theorem dl_257 : decode code 257 = .ok (.invokevirtual 43, 3) := by decide +kernel
theorem dl_260 : decode code 260 = .ok (.if_icmp .eq 167, 3) := by decide +kernel
theorem dl_263 : decode code 263 = .ok (.iconst 0, 1) := by decide +kernel
theorem dl_264 : decode code 264 = .ok (.ireturn, 1) := by decide +kernel
theorem dl_265 : decode code 265 = .ok (.aload_n 1, 1) := by decide +kernel
theorem dl_266 : decode code 266 = .ok (.aload_n 0, 1) := by decide +kernel
theorem dl_267 : decode code 267 = .ok (.iload_n 3, 1) := by decide +kernel
theorem dl_268 : decode code 268 = .ok (.iconst 1, 1) := by decide +kernel
theorem dl_269 : decode code 269 = .ok (.iadd, 1) := by decide +kernel
theorem dl_270 : decode code 270 = .ok (.iaload, 1) := by decide +kernel
theorem dl_271 : decode code 271 = .ok (.invokevirtual 44, 3) := by decide +kernel
theorem dl_274 : decode code 274 = .ok (.aload_n 2, 1) := by decide +kernel
theorem dl_275 : decode code 275 = .ok (.aload_n 0, 1) := by decide +kernel
theorem dl_276 : decode code 276 = .ok (.iload_n 3, 1) := by decide +kernel
theorem dl_277 : decode code 277 = .ok (.iconst 1, 1) := by decide +kernel
theorem dl_278 : decode code 278 = .ok (.iadd, 1) := by decide +kernel
theorem dl_279 : decode code 279 = .ok (.iaload, 1) := by decide +kernel
theorem dl_280 : decode code 280 = .ok (.invokevirtual 47, 3) := by decide +kernel
theorem dl_283 : decode code 283 = .ok (.if_icmp .eq 144, 3) := by decide +kernel
theorem dl_286 : decode code 286 = .ok (.iconst 0, 1) := by decide +kernel
theorem dl_287 : decode code 287 = .ok (.ireturn, 1) := by decide +kernel
theorem dl_288 : decode code 288 = .ok (.aload_n 1, 1) := by decide +kernel
theorem dl_289 : decode code 289 = .ok (.aload_n 0, 1) := by decide +kernel
theorem dl_290 : decode code 290 = .ok (.iload_n 3, 1) := by decide +kernel
theorem dl_291 : decode code 291 = .ok (.iconst 1, 1) := by decide +kernel
theorem dl_292 : decode code 292 = .ok (.iadd, 1) := by decide +kernel
theorem dl_293 : decode code 293 = .ok (.iaload, 1) := by decide +kernel
theorem dl_294 : decode code 294 = .ok (.aload_n 0, 1) := by decide +kernel
theorem dl_295 : decode code 295 = .ok (.iload_n 3, 1) := by decide +kernel
theorem dl_296 : decode code 296 = .ok (.iconst 2, 1) := by decide +kernel
theorem dl_297 : decode code 297 = .ok (.iadd, 1) := by decide +kernel
theorem dl_298 : decode code 298 = .ok (.iaload, 1) := by decide +kernel
theorem dl_299 : decode code 299 = .ok (.invokevirtual 48, 3) := by decide +kernel
theorem dl_302 : decode code 302 = .ok (.aload_n 2, 1) := by decide +kernel
theorem dl_303 : decode code 303 = .ok (.aload_n 0, 1) := by decide +kernel
theorem dl_304 : decode code 304 = .ok (.iload_n 3, 1) := by decide +kernel
theorem dl_305 : decode code 305 = .ok (.iconst 1, 1) := by decide +kernel
theorem dl_306 : decode code 306 = .ok (.iadd, 1) := by decide +kernel
theorem dl_307 : decode code 307 = .ok (.iaload, 1) := by decide +kernel
theorem dl_308 : decode code 308 = .ok (.aload_n 0, 1) := by decide +kernel
theorem dl_309 : decode code 309 = .ok (.iload_n 3, 1) := by decide +kernel
theorem dl_310 : decode code 310 = .ok (.iconst 2, 1) := by decide +kernel
theorem dl_311 : decode code 311 = .ok (.iadd, 1) := by decide +kernel
theorem dl_312 : decode code 312 = .ok (.iaload, 1) := by decide +kernel
theorem dl_313 : decode code 313 = .ok (.invokevirtual 51, 3) := by decide +kernel
theorem dl_316 : decode code 316 = .ok (.if_icmp .eq 111, 3) := by decide +kernel
theorem dl_319 : decode code 319 = .ok (.iconst 0, 1) := by decide +kernel
theorem dl_320 : decode code 320 = .ok (.ireturn, 1) := by decide +kernel
theorem dl_321 : decode code 321 = .ok (.aload_n 1, 1) := by decide +kernel
theorem dl_322 : decode code 322 = .ok (.aload_n 0, 1) := by decide +kernel
theorem dl_323 : decode code 323 = .ok (.iload_n 3, 1) := by decide +kernel
theorem dl_324 : decode code 324 = .ok (.iconst 1, 1) := by decide +kernel
theorem dl_325 : decode code 325 = .ok (.iadd, 1) := by decide +kernel
theorem dl_326 : decode code 326 = .ok (.iaload, 1) := by decide +kernel
theorem dl_327 : decode code 327 = .ok (.invokevirtual 52, 3) := by decide +kernel
theorem dl_330 : decode code 330 = .ok (.aload_n 2, 1) := by decide +kernel
theorem dl_331 : decode code 331 = .ok (.aload_n 0, 1) := by decide +kernel
theorem dl_332 : decode code 332 = .ok (.iload_n 3, 1) := by decide +kernel
theorem dl_333 : decode code 333 = .ok (.iconst 1, 1) := by decide +kernel
theorem dl_334 : decode code 334 = .ok (.iadd, 1) := by decide +kernel
theorem dl_335 : decode code 335 = .ok (.iaload, 1) := by decide +kernel
theorem dl_336 : decode code 336 = .ok (.invokevirtual 55, 3) := by decide +kernel
theorem dl_339 : decode code 339 = .ok (.if_icmp .eq 88, 3) := by decide +kernel
theorem dl_342 : decode code 342 = .ok (.iconst 0, 1) := by decide +kernel
theorem dl_343 : decode code 343 = .ok (.ireturn, 1) := by decide +kernel
theorem dl_344 : decode code 344 = .ok (.aload_n 1, 1) := by decide +kernel
theorem dl_345 : decode code 345 = .ok (.aload_n 0, 1) := by decide +kernel
theorem dl_346 : decode code 346 = .ok (.iload_n 3, 1) := by decide +kernel
theorem dl_347 : decode code 347 = .ok (.iconst 1, 1) := by decide +kernel
theorem dl_348 : decode code 348 = .ok (.iadd, 1) := by decide +kernel
theorem dl_349 : decode code 349 = .ok (.iaload, 1) := by decide +kernel
theorem dl_350 : decode code 350 = .ok (.aload_n 0, 1) := by decide +kernel
theorem dl_351 : decode code 351 = .ok (.iload_n 3, 1) := by decide +kernel
theorem dl_352 : decode code 352 = .ok (.iconst 2, 1) := by decide +kernel
theorem dl_353 : decode code 353 = .ok (.iadd, 1) := by decide +kernel
theorem dl_354 : decode code 354 = .ok (.iaload, 1) := by decide +kernel
theorem dl_355 : decode code 355 = .ok (.invokevirtual 56, 3) := by decide +kernel
theorem dl_358 : decode code 358 = .ok (.aload_n 2, 1) := by decide +kernel
theorem dl_359 : decode code 359 = .ok (.aload_n 0, 1) := by decide +kernel
theorem dl_360 : decode code 360 = .ok (.iload_n 3, 1) := by decide +kernel
theorem dl_361 : decode code 361 = .ok (.iconst 1, 1) := by decide +kernel
theorem dl_362 : decode code 362 = .ok (.iadd, 1) := by decide +kernel
theorem dl_363 : decode code 363 = .ok (.iaload, 1) := by decide +kernel
theorem dl_364 : decode code 364 = .ok (.aload_n 0, 1) := by decide +kernel
theorem dl_365 : decode code 365 = .ok (.iload_n 3, 1) := by decide +kernel
theorem dl_366 : decode code 366 = .ok (.iconst 2, 1) := by decide +kernel
theorem dl_367 : decode code 367 = .ok (.iadd, 1) := by decide +kernel
theorem dl_368 : decode code 368 = .ok (.iaload, 1) := by decide +kernel
theorem dl_369 : decode code 369 = .ok (.invokevirtual 59, 3) := by decide +kernel
theorem dl_372 : decode code 372 = .ok (.if_icmp .eq 55, 3) := by decide +kernel
theorem dl_375 : decode code 375 = .ok (.iconst 0, 1) := by decide +kernel
theorem dl_376 : decode code 376 = .ok (.ireturn, 1) := by decide +kernel
theorem dl_377 : decode code 377 = .ok (.aload_n 1, 1) := by decide +kernel
theorem dl_378 : decode code 378 = .ok (.invokevirtual 60, 3) := by decide +kernel
theorem dl_381 : decode code 381 = .ok (.aload_n 2, 1) := by decide +kernel
theorem dl_382 : decode code 382 = .ok (.invokevirtual 63, 3) := by decide +kernel
theorem dl_385 : decode code 385 = .ok (.if_icmp .eq 42, 3) := by decide +kernel
theorem dl_388 : decode code 388 = .ok (.iconst 0, 1) := by decide +kernel
theorem dl_389 : decode code 389 = .ok (.ireturn, 1) := by decide +kernel
theorem dl_390 : decode code 390 = .ok (.aload_n 1, 1) := by decide +kernel
theorem dl_391 : decode code 391 = .ok (.aload_n 0, 1) := by decide +kernel
theorem dl_392 : decode code 392 = .ok (.iload_n 3, 1) := by decide +kernel
theorem dl_393 : decode code 393 = .ok (.iconst 1, 1) := by decide +kernel
theorem dl_394 : decode code 394 = .ok (.iadd, 1) := by decide +kernel
theorem dl_395 : decode code 395 = .ok (.iaload, 1) := by decide +kernel
theorem dl_396 : decode code 396 = .ok (.invokevirtual 64, 3) := by decide +kernel
theorem dl_399 : decode code 399 = .ok (.aload_n 2, 1) := by decide +kernel
theorem dl_400 : decode code 400 = .ok (.aload_n 0, 1) := by decide +kernel
theorem dl_401 : decode code 401 = .ok (.iload_n 3, 1) := by decide +kernel
theorem dl_402 : decode code 402 = .ok (.iconst 1, 1) := by decide +kernel
theorem dl_403 : decode code 403 = .ok (.iadd, 1) := by decide +kernel
theorem dl_404 : decode code 404 = .ok (.iaload, 1) := by decide +kernel
theorem dl_405 : decode code 405 = .ok (.invokevirtual 67, 3) := by decide +kernel
theorem dl_408 : decode code 408 = .ok (.if_icmp .eq 19, 3) := by decide +kernel
theorem dl_411 : decode code 411 = .ok (.iconst 0, 1) := by decide +kernel
theorem dl_412 : decode code 412 = .ok (.ireturn, 1) := by decide +kernel
theorem dl_413 : decode code 413 = .ok (.aload_n 1, 1) := by decide +kernel
theorem dl_414 : decode code 414 = .ok (.invokevirtual 68, 3) := by decide +kernel
theorem dl_417 : decode code 417 = .ok (.aload_n 2, 1) := by decide +kernel
theorem dl_418 : decode code 418 = .ok (.invokevirtual 72, 3) := by decide +kernel
theorem dl_421 : decode code 421 = .ok (.lcmp, 1) := by decide +kernel
theorem dl_422 : decode code 422 = .ok (.ifCond .eq 5, 3) := by decide +kernel
theorem dl_425 : decode code 425 = .ok (.iconst 0, 1) := by decide +kernel
theorem dl_426 : decode code 426 = .ok (.ireturn, 1) := by decide +kernel
theorem dl_427 : decode code 427 = .ok (.iinc 3 3, 3) := by decide +kernel
theorem dl_430 : decode code 430 = .ok (.goto (-412), 3) := by decide +kernel
theorem dl_433 : decode code 433 = .ok (.iconst 1, 1) := by decide +kernel
theorem dl_434 : decode code 434 = .ok (.ireturn, 1) := by decide +kernel
section LOOP
variable {p : Program} {l : Launch} {e : Env} {s : State} {m : MethodId} {below : List Frame} {meth : Method} {c : Code} {b L : Nat} {xs : Nat → Int32} {ad : Nat → Nat} {ty : Nat → ClassId} {D : va_G}
/-- where the law's loop stands -/
def lwI (ad : Nat → Nat) (ty : Nat → ClassId) (D : va_G) (s : State) (b k : Nat) (σ : yS) (H : Heap) (locs : List Loc) (ls : Array Slot) : Prop := Inv σ ∧ va_P D vwCl (wd ad ty σ) H ∧ va_D (fun q : Nat => s.heap.size ≤ q) (wd ad ty σ) ∧ va_S (fun q : Nat => s.heap.size ≤ q) s.heap H locs ∧ lv_has ls 4 [(3, .int (nI (3 * k))), (2, .ref (ad 97)), (1, .ref (ad 0)), (0, .ref b)]
set_option maxRecDepth 20000 in
theorem lw_op0 {k : Nat} {σ : yS} {H : Heap} {locs : List Loc} {ls : Array Slot} (X : kX p s m #[Value.ref b] c R_law code 4 ty D) (hX : va_X b L xs s s.heap) (hbl : b < s.heap.size) (hL : L ≤ 1536) (hk : 3 * k + 2 < L) (h : lwI ad ty D s b k σ H locs ls) (tail : ∀ (σ' : yS) (H' : Heap) (locs' : List Loc) (ls' : Array Slot), lwI ad ty D s b k σ' H' locs' ls' → W p l e room_1 s m #[Value.ref b] below meth c H' locs' 118 4678 (lw_Z below #[Value.ref b] s) (F0 m 427 ls' [])) : W p l e room_1 s m #[Value.ref b] below meth c H locs 118 4678 (lw_Z below #[Value.ref b] s) (F0 m 104 ls []) := by
  obtain ⟨hi, hP, hD, hS, hl⟩ := h
  have hbA : ¬ (fun q : Nat => s.heap.size ≤ q) b := Nat.not_le.mpr hbl
  have e1 : nI (3 * k) + 1 = nI (3 * k + 1) := nI_add (3 * k) 1
  have e2 : nI (3 * k) + 2 = nI (3 * k + 2) := nI_add (3 * k) 2
  refine lv_aload_n X.1 X.2.1 dl_104 rfl (lv_at hl 2 rfl) ?_
  refine lv_aload_n X.1 X.2.1 dl_105 rfl (lv_at hl 3 rfl) ?_
  refine lv_iload_n X.1 X.2.1 dl_106 rfl (lv_at hl 0 rfl) ?_
  refine lv_iconst (v := 1) X.1 X.2.1 dl_107 (by decide) ?_
  refine lv_iadd X.1 X.2.1 dl_108 ?_
  rw [e1]
  refine va_sld X.1 X.2.1 hX hbl hbA hS (vp_in_nI (n := 3 * k + 1) (by omega) (by omega)) dl_109 ?_
  rw [nI_clamp (n := 3 * k + 1) (by omega)]
  refine lw_call (cal := 52) (b := 0) (vs := [.int (xs (3 * k + 1))]) (rest := []) X gd_52 (by decide +kernel) (fds := _) (by exact rfl) (mem_at (p := 336) (by decide +kernel)) rfl (Nat.le_of_ble_eq_true rfl) (Nat.le_of_ble_eq_true rfl) (op_type (d := 0) hi) hP hD hS hl.1 (Nat.le_of_ble_eq_true rfl) (Nat.le_of_ble_eq_true rfl) dl_110 rfl (fun r σ1 H1 locs1 hq hP hD hS => ?_)
  match r, hq with
  | some (.int x), hq =>
    generalize H1 = H at hP hS ⊢
    refine lv_aload_n X.1 X.2.1 dl_113 rfl (lv_at hl 1 rfl) ?_
    refine lv_aload_n X.1 X.2.1 dl_114 rfl (lv_at hl 3 rfl) ?_
    refine lv_iload_n X.1 X.2.1 dl_115 rfl (lv_at hl 0 rfl) ?_
    refine lv_iconst (v := 1) X.1 X.2.1 dl_116 (by decide) ?_
    refine lv_iadd X.1 X.2.1 dl_117 ?_
    rw [e1]
    refine va_sld X.1 X.2.1 hX hbl hbA hS (vp_in_nI (n := 3 * k + 1) (by omega) (by omega)) dl_118 ?_
    rw [nI_clamp (n := 3 * k + 1) (by omega)]
    refine lw_call (cal := 94) (b := 97) (vs := [.int (xs (3 * k + 1))]) (rest := [.int x]) X gd_94 (by decide +kernel) (fds := _) (by exact rfl) (mem_at (p := 787) (by decide +kernel)) rfl (Nat.le_of_ble_eq_true rfl) (Nat.le_of_ble_eq_true rfl) hq hP hD hS hl.1 (Nat.le_of_ble_eq_true rfl) (Nat.le_of_ble_eq_true rfl) dl_119 rfl (fun r' σ1 H1 locs1 hq2 hP hD hS => ?_)
    match r', hq2 with
    | some (.int x2), hq2 =>
      obtain ⟨hx, hi2⟩ := hq2
      subst hx
      refine lv_icmp_eq (tgt := 427) X.1 X.2.1 dl_122 (by decide) (fun _ => ?_) (fun z => absurd rfl z)
      exact tail _ _ _ _ ⟨hi2, hP, hD, hS, hl⟩
set_option maxRecDepth 20000 in
theorem lw_op1 {k : Nat} {σ : yS} {H : Heap} {locs : List Loc} {ls : Array Slot} (X : kX p s m #[Value.ref b] c R_law code 4 ty D) (hX : va_X b L xs s s.heap) (hbl : b < s.heap.size) (hL : L ≤ 1536) (hk : 3 * k + 2 < L) (h : lwI ad ty D s b k σ H locs ls) (tail : ∀ (σ' : yS) (H' : Heap) (locs' : List Loc) (ls' : Array Slot), lwI ad ty D s b k σ' H' locs' ls' → W p l e room_1 s m #[Value.ref b] below meth c H' locs' 118 4678 (lw_Z below #[Value.ref b] s) (F0 m 427 ls' [])) : W p l e room_1 s m #[Value.ref b] below meth c H locs 118 4678 (lw_Z below #[Value.ref b] s) (F0 m 127 ls []) := by
  obtain ⟨hi, hP, hD, hS, hl⟩ := h
  have hbA : ¬ (fun q : Nat => s.heap.size ≤ q) b := Nat.not_le.mpr hbl
  have e1 : nI (3 * k) + 1 = nI (3 * k + 1) := nI_add (3 * k) 1
  have e2 : nI (3 * k) + 2 = nI (3 * k + 2) := nI_add (3 * k) 2
  refine lv_aload_n X.1 X.2.1 dl_127 rfl (lv_at hl 2 rfl) ?_
  refine lw_call (cal := 53) (b := 0) (vs := []) (rest := []) X gd_53 (by decide +kernel) (fds := _) (by exact rfl) (mem_at (p := 346) (by decide +kernel)) rfl (Nat.le_of_ble_eq_true rfl) (Nat.le_of_ble_eq_true rfl) (op_clear (d := 0) hi) hP hD hS hl.1 (Nat.le_of_ble_eq_true rfl) (Nat.le_of_ble_eq_true rfl) dl_128 rfl (fun r σ1 H1 locs1 hq hP hD hS => ?_)
  match r, hq with
  | some (.int x), hq =>
    generalize H1 = H at hP hS ⊢
    refine lv_aload_n X.1 X.2.1 dl_131 rfl (lv_at hl 1 rfl) ?_
    refine lw_call (cal := 95) (b := 97) (vs := []) (rest := [.int x]) X gd_95 (by decide +kernel) (fds := _) (by exact rfl) (mem_at (p := 795) (by decide +kernel)) rfl (Nat.le_of_ble_eq_true rfl) (Nat.le_of_ble_eq_true rfl) hq hP hD hS hl.1 (Nat.le_of_ble_eq_true rfl) (Nat.le_of_ble_eq_true rfl) dl_132 rfl (fun r' σ1 H1 locs1 hq2 hP hD hS => ?_)
    match r', hq2 with
    | some (.int x2), hq2 =>
      obtain ⟨hx, hi2⟩ := hq2
      subst hx
      refine lv_icmp_eq (tgt := 427) X.1 X.2.1 dl_135 (by decide) (fun _ => ?_) (fun z => absurd rfl z)
      exact tail _ _ _ _ ⟨hi2, hP, hD, hS, hl⟩
set_option maxRecDepth 20000 in
theorem lw_op2 {k : Nat} {σ : yS} {H : Heap} {locs : List Loc} {ls : Array Slot} (X : kX p s m #[Value.ref b] c R_law code 4 ty D) (hX : va_X b L xs s s.heap) (hbl : b < s.heap.size) (hL : L ≤ 1536) (hk : 3 * k + 2 < L) (h : lwI ad ty D s b k σ H locs ls) (tail : ∀ (σ' : yS) (H' : Heap) (locs' : List Loc) (ls' : Array Slot), lwI ad ty D s b k σ' H' locs' ls' → W p l e room_1 s m #[Value.ref b] below meth c H' locs' 118 4678 (lw_Z below #[Value.ref b] s) (F0 m 427 ls' [])) : W p l e room_1 s m #[Value.ref b] below meth c H locs 118 4678 (lw_Z below #[Value.ref b] s) (F0 m 140 ls []) := by
  obtain ⟨hi, hP, hD, hS, hl⟩ := h
  have hbA : ¬ (fun q : Nat => s.heap.size ≤ q) b := Nat.not_le.mpr hbl
  have e1 : nI (3 * k) + 1 = nI (3 * k + 1) := nI_add (3 * k) 1
  have e2 : nI (3 * k) + 2 = nI (3 * k + 2) := nI_add (3 * k) 2
  refine lv_aload_n X.1 X.2.1 dl_140 rfl (lv_at hl 2 rfl) ?_
  refine lw_call (cal := 54) (b := 0) (vs := []) (rest := []) X gd_54 (by decide +kernel) (fds := _) (by exact rfl) (mem_at (p := 350) (by decide +kernel)) rfl (Nat.le_of_ble_eq_true rfl) (Nat.le_of_ble_eq_true rfl) (op_reads (d := 0) hi) hP hD hS hl.1 (Nat.le_of_ble_eq_true rfl) (Nat.le_of_ble_eq_true rfl) dl_141 rfl (fun r σ1 H1 locs1 hq hP hD hS => ?_)
  match r, hq with
  | some (.int x), hq =>
    generalize H1 = H at hP hS ⊢
    refine lv_aload_n X.1 X.2.1 dl_144 rfl (lv_at hl 1 rfl) ?_
    refine lw_call (cal := 114) (b := 97) (vs := []) (rest := [.int x]) X gd_114 (by decide +kernel) (fds := _) (by exact rfl) (mem_at (p := 799) (by decide +kernel)) rfl (Nat.le_of_ble_eq_true rfl) (Nat.le_of_ble_eq_true rfl) hq hP hD hS hl.1 (Nat.le_of_ble_eq_true rfl) (Nat.le_of_ble_eq_true rfl) dl_145 rfl (fun r' σ1 H1 locs1 hq2 hP hD hS => ?_)
    match r', hq2 with
    | some (.int x2), hq2 =>
      obtain ⟨hx, hi2⟩ := hq2
      subst hx
      refine lv_icmp_eq (tgt := 427) X.1 X.2.1 dl_148 (by decide) (fun _ => ?_) (fun z => absurd rfl z)
      exact tail _ _ _ _ ⟨hi2, hP, hD, hS, hl⟩
set_option maxRecDepth 20000 in
theorem lw_op3 {k : Nat} {σ : yS} {H : Heap} {locs : List Loc} {ls : Array Slot} (X : kX p s m #[Value.ref b] c R_law code 4 ty D) (hX : va_X b L xs s s.heap) (hbl : b < s.heap.size) (hL : L ≤ 1536) (hk : 3 * k + 2 < L) (h : lwI ad ty D s b k σ H locs ls) (tail : ∀ (σ' : yS) (H' : Heap) (locs' : List Loc) (ls' : Array Slot), lwI ad ty D s b k σ' H' locs' ls' → W p l e room_1 s m #[Value.ref b] below meth c H' locs' 118 4678 (lw_Z below #[Value.ref b] s) (F0 m 427 ls' [])) : W p l e room_1 s m #[Value.ref b] below meth c H locs 118 4678 (lw_Z below #[Value.ref b] s) (F0 m 153 ls []) := by
  obtain ⟨hi, hP, hD, hS, hl⟩ := h
  have hbA : ¬ (fun q : Nat => s.heap.size ≤ q) b := Nat.not_le.mpr hbl
  have e1 : nI (3 * k) + 1 = nI (3 * k + 1) := nI_add (3 * k) 1
  have e2 : nI (3 * k) + 2 = nI (3 * k + 2) := nI_add (3 * k) 2
  refine lv_aload_n X.1 X.2.1 dl_153 rfl (lv_at hl 2 rfl) ?_
  refine lv_aload_n X.1 X.2.1 dl_154 rfl (lv_at hl 3 rfl) ?_
  refine lv_iload_n X.1 X.2.1 dl_155 rfl (lv_at hl 0 rfl) ?_
  refine lv_iconst (v := 1) X.1 X.2.1 dl_156 (by decide) ?_
  refine lv_iadd X.1 X.2.1 dl_157 ?_
  rw [e1]
  refine va_sld X.1 X.2.1 hX hbl hbA hS (vp_in_nI (n := 3 * k + 1) (by omega) (by omega)) dl_158 ?_
  rw [nI_clamp (n := 3 * k + 1) (by omega)]
  refine lv_aload_n X.1 X.2.1 dl_159 rfl (lv_at hl 3 rfl) ?_
  refine lv_iload_n X.1 X.2.1 dl_160 rfl (lv_at hl 0 rfl) ?_
  refine lv_iconst (v := 2) X.1 X.2.1 dl_161 (by decide) ?_
  refine lv_iadd X.1 X.2.1 dl_162 ?_
  rw [e2]
  refine va_sld X.1 X.2.1 hX hbl hbA hS (vp_in_nI (n := 3 * k + 2) (by omega) (by omega)) dl_163 ?_
  rw [nI_clamp (n := 3 * k + 2) (by omega)]
  refine lw_call (cal := 55) (b := 0) (vs := [.int (xs (3 * k + 1)), .int (xs (3 * k + 2))]) (rest := []) X gd_55 (by decide +kernel) (fds := _) (by exact rfl) (mem_at (p := 471) (by decide +kernel)) rfl (Nat.le_of_ble_eq_true rfl) (Nat.le_of_ble_eq_true rfl) (op_value (d := 0) hi) hP hD hS hl.1 (Nat.le_of_ble_eq_true rfl) (Nat.le_of_ble_eq_true rfl) dl_164 rfl (fun r σ1 H1 locs1 hq hP hD hS => ?_)
  match r, hq with
  | some (.int x), hq =>
    generalize H1 = H at hP hS ⊢
    refine lv_aload_n X.1 X.2.1 dl_167 rfl (lv_at hl 1 rfl) ?_
    refine lv_aload_n X.1 X.2.1 dl_168 rfl (lv_at hl 3 rfl) ?_
    refine lv_iload_n X.1 X.2.1 dl_169 rfl (lv_at hl 0 rfl) ?_
    refine lv_iconst (v := 1) X.1 X.2.1 dl_170 (by decide) ?_
    refine lv_iadd X.1 X.2.1 dl_171 ?_
    rw [e1]
    refine va_sld X.1 X.2.1 hX hbl hbA hS (vp_in_nI (n := 3 * k + 1) (by omega) (by omega)) dl_172 ?_
    rw [nI_clamp (n := 3 * k + 1) (by omega)]
    refine lv_aload_n X.1 X.2.1 dl_173 rfl (lv_at hl 3 rfl) ?_
    refine lv_iload_n X.1 X.2.1 dl_174 rfl (lv_at hl 0 rfl) ?_
    refine lv_iconst (v := 2) X.1 X.2.1 dl_175 (by decide) ?_
    refine lv_iadd X.1 X.2.1 dl_176 ?_
    rw [e2]
    refine va_sld X.1 X.2.1 hX hbl hbA hS (vp_in_nI (n := 3 * k + 2) (by omega) (by omega)) dl_177 ?_
    rw [nI_clamp (n := 3 * k + 2) (by omega)]
    refine lw_call (cal := 115) (b := 97) (vs := [.int (xs (3 * k + 1)), .int (xs (3 * k + 2))]) (rest := [.int x]) X gd_115 (by decide +kernel) (fds := _) (by exact rfl) (mem_at (p := 891) (by decide +kernel)) rfl (Nat.le_of_ble_eq_true rfl) (Nat.le_of_ble_eq_true rfl) hq hP hD hS hl.1 (Nat.le_of_ble_eq_true rfl) (Nat.le_of_ble_eq_true rfl) dl_178 rfl (fun r' σ1 H1 locs1 hq2 hP hD hS => ?_)
    match r', hq2 with
    | some (.int x2), hq2 =>
      obtain ⟨hx, hi2⟩ := hq2
      subst hx
      refine lv_icmp_eq (tgt := 427) X.1 X.2.1 dl_181 (by decide) (fun _ => ?_) (fun z => absurd rfl z)
      exact tail _ _ _ _ ⟨hi2, hP, hD, hS, hl⟩
set_option maxRecDepth 20000 in
theorem lw_op4 {k : Nat} {σ : yS} {H : Heap} {locs : List Loc} {ls : Array Slot} (X : kX p s m #[Value.ref b] c R_law code 4 ty D) (hX : va_X b L xs s s.heap) (hbl : b < s.heap.size) (hL : L ≤ 1536) (hk : 3 * k + 2 < L) (h : lwI ad ty D s b k σ H locs ls) (tail : ∀ (σ' : yS) (H' : Heap) (locs' : List Loc) (ls' : Array Slot), lwI ad ty D s b k σ' H' locs' ls' → W p l e room_1 s m #[Value.ref b] below meth c H' locs' 118 4678 (lw_Z below #[Value.ref b] s) (F0 m 427 ls' [])) : W p l e room_1 s m #[Value.ref b] below meth c H locs 118 4678 (lw_Z below #[Value.ref b] s) (F0 m 186 ls []) := by
  obtain ⟨hi, hP, hD, hS, hl⟩ := h
  have hbA : ¬ (fun q : Nat => s.heap.size ≤ q) b := Nat.not_le.mpr hbl
  have e1 : nI (3 * k) + 1 = nI (3 * k + 1) := nI_add (3 * k) 1
  have e2 : nI (3 * k) + 2 = nI (3 * k + 2) := nI_add (3 * k) 2
  refine lv_aload_n X.1 X.2.1 dl_186 rfl (lv_at hl 2 rfl) ?_
  refine lv_aload_n X.1 X.2.1 dl_187 rfl (lv_at hl 3 rfl) ?_
  refine lv_iload_n X.1 X.2.1 dl_188 rfl (lv_at hl 0 rfl) ?_
  refine lv_iconst (v := 1) X.1 X.2.1 dl_189 (by decide) ?_
  refine lv_iadd X.1 X.2.1 dl_190 ?_
  rw [e1]
  refine va_sld X.1 X.2.1 hX hbl hbA hS (vp_in_nI (n := 3 * k + 1) (by omega) (by omega)) dl_191 ?_
  rw [nI_clamp (n := 3 * k + 1) (by omega)]
  refine lw_call (cal := 56) (b := 0) (vs := [.int (xs (3 * k + 1))]) (rest := []) X gd_56 (by decide +kernel) (fds := _) (by exact rfl) (mem_at (p := 481) (by decide +kernel)) rfl (Nat.le_of_ble_eq_true rfl) (Nat.le_of_ble_eq_true rfl) (op_drops (d := 0) hi) hP hD hS hl.1 (Nat.le_of_ble_eq_true rfl) (Nat.le_of_ble_eq_true rfl) dl_192 rfl (fun r σ1 H1 locs1 hq hP hD hS => ?_)
  match r, hq with
  | some (.int x), hq =>
    generalize H1 = H at hP hS ⊢
    refine lv_aload_n X.1 X.2.1 dl_195 rfl (lv_at hl 1 rfl) ?_
    refine lv_aload_n X.1 X.2.1 dl_196 rfl (lv_at hl 3 rfl) ?_
    refine lv_iload_n X.1 X.2.1 dl_197 rfl (lv_at hl 0 rfl) ?_
    refine lv_iconst (v := 1) X.1 X.2.1 dl_198 (by decide) ?_
    refine lv_iadd X.1 X.2.1 dl_199 ?_
    rw [e1]
    refine va_sld X.1 X.2.1 hX hbl hbA hS (vp_in_nI (n := 3 * k + 1) (by omega) (by omega)) dl_200 ?_
    rw [nI_clamp (n := 3 * k + 1) (by omega)]
    refine lw_call (cal := 116) (b := 97) (vs := [.int (xs (3 * k + 1))]) (rest := [.int x]) X gd_116 (by decide +kernel) (fds := _) (by exact rfl) (mem_at (p := 897) (by decide +kernel)) rfl (Nat.le_of_ble_eq_true rfl) (Nat.le_of_ble_eq_true rfl) hq hP hD hS hl.1 (Nat.le_of_ble_eq_true rfl) (Nat.le_of_ble_eq_true rfl) dl_201 rfl (fun r' σ1 H1 locs1 hq2 hP hD hS => ?_)
    match r', hq2 with
    | some (.int x2), hq2 =>
      obtain ⟨hx, hi2⟩ := hq2
      subst hx
      refine lv_icmp_eq (tgt := 427) X.1 X.2.1 dl_204 (by decide) (fun _ => ?_) (fun z => absurd rfl z)
      exact tail _ _ _ _ ⟨hi2, hP, hD, hS, hl⟩
set_option maxRecDepth 20000 in
theorem lw_op5 {k : Nat} {σ : yS} {H : Heap} {locs : List Loc} {ls : Array Slot} (X : kX p s m #[Value.ref b] c R_law code 4 ty D) (hX : va_X b L xs s s.heap) (hbl : b < s.heap.size) (hL : L ≤ 1536) (hk : 3 * k + 2 < L) (h : lwI ad ty D s b k σ H locs ls) (tail : ∀ (σ' : yS) (H' : Heap) (locs' : List Loc) (ls' : Array Slot), lwI ad ty D s b k σ' H' locs' ls' → W p l e room_1 s m #[Value.ref b] below meth c H' locs' 118 4678 (lw_Z below #[Value.ref b] s) (F0 m 427 ls' [])) : W p l e room_1 s m #[Value.ref b] below meth c H locs 118 4678 (lw_Z below #[Value.ref b] s) (F0 m 209 ls []) := by
  obtain ⟨hi, hP, hD, hS, hl⟩ := h
  have hbA : ¬ (fun q : Nat => s.heap.size ≤ q) b := Nat.not_le.mpr hbl
  have e1 : nI (3 * k) + 1 = nI (3 * k + 1) := nI_add (3 * k) 1
  have e2 : nI (3 * k) + 2 = nI (3 * k + 2) := nI_add (3 * k) 2
  refine lv_aload_n X.1 X.2.1 dl_209 rfl (lv_at hl 2 rfl) ?_
  refine lv_aload_n X.1 X.2.1 dl_210 rfl (lv_at hl 3 rfl) ?_
  refine lv_iload_n X.1 X.2.1 dl_211 rfl (lv_at hl 0 rfl) ?_
  refine lv_iconst (v := 1) X.1 X.2.1 dl_212 (by decide) ?_
  refine lv_iadd X.1 X.2.1 dl_213 ?_
  rw [e1]
  refine va_sld X.1 X.2.1 hX hbl hbA hS (vp_in_nI (n := 3 * k + 1) (by omega) (by omega)) dl_214 ?_
  rw [nI_clamp (n := 3 * k + 1) (by omega)]
  refine lv_aload_n X.1 X.2.1 dl_215 rfl (lv_at hl 3 rfl) ?_
  refine lv_iload_n X.1 X.2.1 dl_216 rfl (lv_at hl 0 rfl) ?_
  refine lv_iconst (v := 2) X.1 X.2.1 dl_217 (by decide) ?_
  refine lv_iadd X.1 X.2.1 dl_218 ?_
  rw [e2]
  refine va_sld X.1 X.2.1 hX hbl hbA hS (vp_in_nI (n := 3 * k + 2) (by omega) (by omega)) dl_219 ?_
  rw [nI_clamp (n := 3 * k + 2) (by omega)]
  refine lw_call (cal := 57) (b := 0) (vs := [.int (xs (3 * k + 1)), .int (xs (3 * k + 2))]) (rest := []) X gd_57 (by decide +kernel) (fds := _) (by exact rfl) (mem_at (p := 495) (by decide +kernel)) rfl (Nat.le_of_ble_eq_true rfl) (Nat.le_of_ble_eq_true rfl) (op_line (d := 0) hi) hP hD hS hl.1 (Nat.le_of_ble_eq_true rfl) (Nat.le_of_ble_eq_true rfl) dl_220 rfl (fun r σ1 H1 locs1 hq hP hD hS => ?_)
  match r, hq with
  | some (.int x), hq =>
    generalize H1 = H at hP hS ⊢
    refine lv_aload_n X.1 X.2.1 dl_223 rfl (lv_at hl 1 rfl) ?_
    refine lv_aload_n X.1 X.2.1 dl_224 rfl (lv_at hl 3 rfl) ?_
    refine lv_iload_n X.1 X.2.1 dl_225 rfl (lv_at hl 0 rfl) ?_
    refine lv_iconst (v := 1) X.1 X.2.1 dl_226 (by decide) ?_
    refine lv_iadd X.1 X.2.1 dl_227 ?_
    rw [e1]
    refine va_sld X.1 X.2.1 hX hbl hbA hS (vp_in_nI (n := 3 * k + 1) (by omega) (by omega)) dl_228 ?_
    rw [nI_clamp (n := 3 * k + 1) (by omega)]
    refine lv_aload_n X.1 X.2.1 dl_229 rfl (lv_at hl 3 rfl) ?_
    refine lv_iload_n X.1 X.2.1 dl_230 rfl (lv_at hl 0 rfl) ?_
    refine lv_iconst (v := 2) X.1 X.2.1 dl_231 (by decide) ?_
    refine lv_iadd X.1 X.2.1 dl_232 ?_
    rw [e2]
    refine va_sld X.1 X.2.1 hX hbl hbA hS (vp_in_nI (n := 3 * k + 2) (by omega) (by omega)) dl_233 ?_
    rw [nI_clamp (n := 3 * k + 2) (by omega)]
    refine lw_call (cal := 118) (b := 97) (vs := [.int (xs (3 * k + 1)), .int (xs (3 * k + 2))]) (rest := [.int x]) X gd_118 (by decide +kernel) (fds := _) (by exact rfl) (mem_at (p := 909) (by decide +kernel)) rfl (Nat.le_of_ble_eq_true rfl) (Nat.le_of_ble_eq_true rfl) hq hP hD hS hl.1 (Nat.le_of_ble_eq_true rfl) (Nat.le_of_ble_eq_true rfl) dl_234 rfl (fun r' σ1 H1 locs1 hq2 hP hD hS => ?_)
    match r', hq2 with
    | some (.int x2), hq2 =>
      obtain ⟨hx, hi2⟩ := hq2
      subst hx
      refine lv_icmp_eq (tgt := 427) X.1 X.2.1 dl_237 (by decide) (fun _ => ?_) (fun z => absurd rfl z)
      exact tail _ _ _ _ ⟨hi2, hP, hD, hS, hl⟩
set_option maxRecDepth 20000 in
theorem lw_op6 {k : Nat} {σ : yS} {H : Heap} {locs : List Loc} {ls : Array Slot} (X : kX p s m #[Value.ref b] c R_law code 4 ty D) (hX : va_X b L xs s s.heap) (hbl : b < s.heap.size) (hL : L ≤ 1536) (hk : 3 * k + 2 < L) (h : lwI ad ty D s b k σ H locs ls) (tail : ∀ (σ' : yS) (H' : Heap) (locs' : List Loc) (ls' : Array Slot), lwI ad ty D s b k σ' H' locs' ls' → W p l e room_1 s m #[Value.ref b] below meth c H' locs' 118 4678 (lw_Z below #[Value.ref b] s) (F0 m 427 ls' [])) : W p l e room_1 s m #[Value.ref b] below meth c H locs 118 4678 (lw_Z below #[Value.ref b] s) (F0 m 242 ls []) := by
  obtain ⟨hi, hP, hD, hS, hl⟩ := h
  have hbA : ¬ (fun q : Nat => s.heap.size ≤ q) b := Nat.not_le.mpr hbl
  have e1 : nI (3 * k) + 1 = nI (3 * k + 1) := nI_add (3 * k) 1
  have e2 : nI (3 * k) + 2 = nI (3 * k + 2) := nI_add (3 * k) 2
  refine lv_aload_n X.1 X.2.1 dl_242 rfl (lv_at hl 2 rfl) ?_
  refine lv_aload_n X.1 X.2.1 dl_243 rfl (lv_at hl 3 rfl) ?_
  refine lv_iload_n X.1 X.2.1 dl_244 rfl (lv_at hl 0 rfl) ?_
  refine lv_iconst (v := 1) X.1 X.2.1 dl_245 (by decide) ?_
  refine lv_iadd X.1 X.2.1 dl_246 ?_
  rw [e1]
  refine va_sld X.1 X.2.1 hX hbl hbA hS (vp_in_nI (n := 3 * k + 1) (by omega) (by omega)) dl_247 ?_
  rw [nI_clamp (n := 3 * k + 1) (by omega)]
  refine lw_call (cal := 58) (b := 0) (vs := [.int (xs (3 * k + 1))]) (rest := []) X gd_58 (by decide +kernel) (fds := _) (by exact rfl) (mem_at (p := 503) (by decide +kernel)) rfl (Nat.le_of_ble_eq_true rfl) (Nat.le_of_ble_eq_true rfl) (op_run (d := 0) hi) hP hD hS hl.1 (Nat.le_of_ble_eq_true rfl) (Nat.le_of_ble_eq_true rfl) dl_248 rfl (fun r σ1 H1 locs1 hq hP hD hS => ?_)
  match r, hq with
  | some (.int x), hq =>
    generalize H1 = H at hP hS ⊢
    refine lv_aload_n X.1 X.2.1 dl_251 rfl (lv_at hl 1 rfl) ?_
    refine lv_aload_n X.1 X.2.1 dl_252 rfl (lv_at hl 3 rfl) ?_
    refine lv_iload_n X.1 X.2.1 dl_253 rfl (lv_at hl 0 rfl) ?_
    refine lv_iconst (v := 1) X.1 X.2.1 dl_254 (by decide) ?_
    refine lv_iadd X.1 X.2.1 dl_255 ?_
    rw [e1]
    refine va_sld X.1 X.2.1 hX hbl hbA hS (vp_in_nI (n := 3 * k + 1) (by omega) (by omega)) dl_256 ?_
    rw [nI_clamp (n := 3 * k + 1) (by omega)]
    refine lw_call (cal := 137) (b := 97) (vs := [.int (xs (3 * k + 1))]) (rest := [.int x]) X gd_137 (by decide +kernel) (fds := _) (by exact rfl) (mem_at (p := 920) (by decide +kernel)) rfl (Nat.le_of_ble_eq_true rfl) (Nat.le_of_ble_eq_true rfl) hq hP hD hS hl.1 (Nat.le_of_ble_eq_true rfl) (Nat.le_of_ble_eq_true rfl) dl_257 rfl (fun r' σ1 H1 locs1 hq2 hP hD hS => ?_)
    match r', hq2 with
    | some (.int x2), hq2 =>
      obtain ⟨hx, hi2⟩ := hq2
      subst hx
      refine lv_icmp_eq (tgt := 427) X.1 X.2.1 dl_260 (by decide) (fun _ => ?_) (fun z => absurd rfl z)
      exact tail _ _ _ _ ⟨hi2, hP, hD, hS, hl⟩
set_option maxRecDepth 20000 in
theorem lw_op7 {k : Nat} {σ : yS} {H : Heap} {locs : List Loc} {ls : Array Slot} (X : kX p s m #[Value.ref b] c R_law code 4 ty D) (hX : va_X b L xs s s.heap) (hbl : b < s.heap.size) (hL : L ≤ 1536) (hk : 3 * k + 2 < L) (h : lwI ad ty D s b k σ H locs ls) (tail : ∀ (σ' : yS) (H' : Heap) (locs' : List Loc) (ls' : Array Slot), lwI ad ty D s b k σ' H' locs' ls' → W p l e room_1 s m #[Value.ref b] below meth c H' locs' 118 4678 (lw_Z below #[Value.ref b] s) (F0 m 427 ls' [])) : W p l e room_1 s m #[Value.ref b] below meth c H locs 118 4678 (lw_Z below #[Value.ref b] s) (F0 m 265 ls []) := by
  obtain ⟨hi, hP, hD, hS, hl⟩ := h
  have hbA : ¬ (fun q : Nat => s.heap.size ≤ q) b := Nat.not_le.mpr hbl
  have e1 : nI (3 * k) + 1 = nI (3 * k + 1) := nI_add (3 * k) 1
  have e2 : nI (3 * k) + 2 = nI (3 * k + 2) := nI_add (3 * k) 2
  refine lv_aload_n X.1 X.2.1 dl_265 rfl (lv_at hl 2 rfl) ?_
  refine lv_aload_n X.1 X.2.1 dl_266 rfl (lv_at hl 3 rfl) ?_
  refine lv_iload_n X.1 X.2.1 dl_267 rfl (lv_at hl 0 rfl) ?_
  refine lv_iconst (v := 1) X.1 X.2.1 dl_268 (by decide) ?_
  refine lv_iadd X.1 X.2.1 dl_269 ?_
  rw [e1]
  refine va_sld X.1 X.2.1 hX hbl hbA hS (vp_in_nI (n := 3 * k + 1) (by omega) (by omega)) dl_270 ?_
  rw [nI_clamp (n := 3 * k + 1) (by omega)]
  refine lw_call (cal := 59) (b := 0) (vs := [.int (xs (3 * k + 1))]) (rest := []) X gd_59 (by decide +kernel) (fds := _) (by exact rfl) (mem_at (p := 600) (by decide +kernel)) rfl (Nat.le_of_ble_eq_true rfl) (Nat.le_of_ble_eq_true rfl) (op_said (d := 0) hi) hP hD hS hl.1 (Nat.le_of_ble_eq_true rfl) (Nat.le_of_ble_eq_true rfl) dl_271 rfl (fun r σ1 H1 locs1 hq hP hD hS => ?_)
  match r, hq with
  | some (.int x), hq =>
    generalize H1 = H at hP hS ⊢
    refine lv_aload_n X.1 X.2.1 dl_274 rfl (lv_at hl 1 rfl) ?_
    refine lv_aload_n X.1 X.2.1 dl_275 rfl (lv_at hl 3 rfl) ?_
    refine lv_iload_n X.1 X.2.1 dl_276 rfl (lv_at hl 0 rfl) ?_
    refine lv_iconst (v := 1) X.1 X.2.1 dl_277 (by decide) ?_
    refine lv_iadd X.1 X.2.1 dl_278 ?_
    rw [e1]
    refine va_sld X.1 X.2.1 hX hbl hbA hS (vp_in_nI (n := 3 * k + 1) (by omega) (by omega)) dl_279 ?_
    rw [nI_clamp (n := 3 * k + 1) (by omega)]
    refine lw_call (cal := 138) (b := 97) (vs := [.int (xs (3 * k + 1))]) (rest := [.int x]) X gd_138 (by decide +kernel) (fds := _) (by exact rfl) (mem_at (p := 1002) (by decide +kernel)) rfl (Nat.le_of_ble_eq_true rfl) (Nat.le_of_ble_eq_true rfl) hq hP hD hS hl.1 (Nat.le_of_ble_eq_true rfl) (Nat.le_of_ble_eq_true rfl) dl_280 rfl (fun r' σ1 H1 locs1 hq2 hP hD hS => ?_)
    match r', hq2 with
    | some (.int x2), hq2 =>
      obtain ⟨hx, hi2⟩ := hq2
      subst hx
      refine lv_icmp_eq (tgt := 427) X.1 X.2.1 dl_283 (by decide) (fun _ => ?_) (fun z => absurd rfl z)
      exact tail _ _ _ _ ⟨hi2, hP, hD, hS, hl⟩
set_option maxRecDepth 20000 in
theorem lw_op8 {k : Nat} {σ : yS} {H : Heap} {locs : List Loc} {ls : Array Slot} (X : kX p s m #[Value.ref b] c R_law code 4 ty D) (hX : va_X b L xs s s.heap) (hbl : b < s.heap.size) (hL : L ≤ 1536) (hk : 3 * k + 2 < L) (h : lwI ad ty D s b k σ H locs ls) (tail : ∀ (σ' : yS) (H' : Heap) (locs' : List Loc) (ls' : Array Slot), lwI ad ty D s b k σ' H' locs' ls' → W p l e room_1 s m #[Value.ref b] below meth c H' locs' 118 4678 (lw_Z below #[Value.ref b] s) (F0 m 427 ls' [])) : W p l e room_1 s m #[Value.ref b] below meth c H locs 118 4678 (lw_Z below #[Value.ref b] s) (F0 m 288 ls []) := by
  obtain ⟨hi, hP, hD, hS, hl⟩ := h
  have hbA : ¬ (fun q : Nat => s.heap.size ≤ q) b := Nat.not_le.mpr hbl
  have e1 : nI (3 * k) + 1 = nI (3 * k + 1) := nI_add (3 * k) 1
  have e2 : nI (3 * k) + 2 = nI (3 * k + 2) := nI_add (3 * k) 2
  refine lv_aload_n X.1 X.2.1 dl_288 rfl (lv_at hl 2 rfl) ?_
  refine lv_aload_n X.1 X.2.1 dl_289 rfl (lv_at hl 3 rfl) ?_
  refine lv_iload_n X.1 X.2.1 dl_290 rfl (lv_at hl 0 rfl) ?_
  refine lv_iconst (v := 1) X.1 X.2.1 dl_291 (by decide) ?_
  refine lv_iadd X.1 X.2.1 dl_292 ?_
  rw [e1]
  refine va_sld X.1 X.2.1 hX hbl hbA hS (vp_in_nI (n := 3 * k + 1) (by omega) (by omega)) dl_293 ?_
  rw [nI_clamp (n := 3 * k + 1) (by omega)]
  refine lv_aload_n X.1 X.2.1 dl_294 rfl (lv_at hl 3 rfl) ?_
  refine lv_iload_n X.1 X.2.1 dl_295 rfl (lv_at hl 0 rfl) ?_
  refine lv_iconst (v := 2) X.1 X.2.1 dl_296 (by decide) ?_
  refine lv_iadd X.1 X.2.1 dl_297 ?_
  rw [e2]
  refine va_sld X.1 X.2.1 hX hbl hbA hS (vp_in_nI (n := 3 * k + 2) (by omega) (by omega)) dl_298 ?_
  rw [nI_clamp (n := 3 * k + 2) (by omega)]
  refine lw_call (cal := 60) (b := 0) (vs := [.int (xs (3 * k + 1)), .int (xs (3 * k + 2))]) (rest := []) X gd_60 (by decide +kernel) (fds := _) (by exact rfl) (mem_at (p := 608) (by decide +kernel)) rfl (Nat.le_of_ble_eq_true rfl) (Nat.le_of_ble_eq_true rfl) (op_did (d := 0) hi) hP hD hS hl.1 (Nat.le_of_ble_eq_true rfl) (Nat.le_of_ble_eq_true rfl) dl_299 rfl (fun r σ1 H1 locs1 hq hP hD hS => ?_)
  match r, hq with
  | some (.int x), hq =>
    generalize H1 = H at hP hS ⊢
    refine lv_aload_n X.1 X.2.1 dl_302 rfl (lv_at hl 1 rfl) ?_
    refine lv_aload_n X.1 X.2.1 dl_303 rfl (lv_at hl 3 rfl) ?_
    refine lv_iload_n X.1 X.2.1 dl_304 rfl (lv_at hl 0 rfl) ?_
    refine lv_iconst (v := 1) X.1 X.2.1 dl_305 (by decide) ?_
    refine lv_iadd X.1 X.2.1 dl_306 ?_
    rw [e1]
    refine va_sld X.1 X.2.1 hX hbl hbA hS (vp_in_nI (n := 3 * k + 1) (by omega) (by omega)) dl_307 ?_
    rw [nI_clamp (n := 3 * k + 1) (by omega)]
    refine lv_aload_n X.1 X.2.1 dl_308 rfl (lv_at hl 3 rfl) ?_
    refine lv_iload_n X.1 X.2.1 dl_309 rfl (lv_at hl 0 rfl) ?_
    refine lv_iconst (v := 2) X.1 X.2.1 dl_310 (by decide) ?_
    refine lv_iadd X.1 X.2.1 dl_311 ?_
    rw [e2]
    refine va_sld X.1 X.2.1 hX hbl hbA hS (vp_in_nI (n := 3 * k + 2) (by omega) (by omega)) dl_312 ?_
    rw [nI_clamp (n := 3 * k + 2) (by omega)]
    refine lw_call (cal := 140) (b := 97) (vs := [.int (xs (3 * k + 1)), .int (xs (3 * k + 2))]) (rest := [.int x]) X gd_140 (by decide +kernel) (fds := _) (by exact rfl) (mem_at (p := 1006) (by decide +kernel)) rfl (Nat.le_of_ble_eq_true rfl) (Nat.le_of_ble_eq_true rfl) hq hP hD hS hl.1 (Nat.le_of_ble_eq_true rfl) (Nat.le_of_ble_eq_true rfl) dl_313 rfl (fun r' σ1 H1 locs1 hq2 hP hD hS => ?_)
    match r', hq2 with
    | some (.int x2), hq2 =>
      obtain ⟨hx, hi2⟩ := hq2
      subst hx
      refine lv_icmp_eq (tgt := 427) X.1 X.2.1 dl_316 (by decide) (fun _ => ?_) (fun z => absurd rfl z)
      exact tail _ _ _ _ ⟨hi2, hP, hD, hS, hl⟩
set_option maxRecDepth 20000 in
theorem lw_op9 {k : Nat} {σ : yS} {H : Heap} {locs : List Loc} {ls : Array Slot} (X : kX p s m #[Value.ref b] c R_law code 4 ty D) (hX : va_X b L xs s s.heap) (hbl : b < s.heap.size) (hL : L ≤ 1536) (hk : 3 * k + 2 < L) (h : lwI ad ty D s b k σ H locs ls) (tail : ∀ (σ' : yS) (H' : Heap) (locs' : List Loc) (ls' : Array Slot), lwI ad ty D s b k σ' H' locs' ls' → W p l e room_1 s m #[Value.ref b] below meth c H' locs' 118 4678 (lw_Z below #[Value.ref b] s) (F0 m 427 ls' [])) : W p l e room_1 s m #[Value.ref b] below meth c H locs 118 4678 (lw_Z below #[Value.ref b] s) (F0 m 321 ls []) := by
  obtain ⟨hi, hP, hD, hS, hl⟩ := h
  have hbA : ¬ (fun q : Nat => s.heap.size ≤ q) b := Nat.not_le.mpr hbl
  have e1 : nI (3 * k) + 1 = nI (3 * k + 1) := nI_add (3 * k) 1
  have e2 : nI (3 * k) + 2 = nI (3 * k + 2) := nI_add (3 * k) 2
  refine lv_aload_n X.1 X.2.1 dl_321 rfl (lv_at hl 2 rfl) ?_
  refine lv_aload_n X.1 X.2.1 dl_322 rfl (lv_at hl 3 rfl) ?_
  refine lv_iload_n X.1 X.2.1 dl_323 rfl (lv_at hl 0 rfl) ?_
  refine lv_iconst (v := 1) X.1 X.2.1 dl_324 (by decide) ?_
  refine lv_iadd X.1 X.2.1 dl_325 ?_
  rw [e1]
  refine va_sld X.1 X.2.1 hX hbl hbA hS (vp_in_nI (n := 3 * k + 1) (by omega) (by omega)) dl_326 ?_
  rw [nI_clamp (n := 3 * k + 1) (by omega)]
  refine lw_call (cal := 61) (b := 0) (vs := [.int (xs (3 * k + 1))]) (rest := []) X gd_61 (by decide +kernel) (fds := _) (by exact rfl) (mem_at (p := 616) (by decide +kernel)) rfl (Nat.le_of_ble_eq_true rfl) (Nat.le_of_ble_eq_true rfl) (op_ends (d := 0) hi) hP hD hS hl.1 (Nat.le_of_ble_eq_true rfl) (Nat.le_of_ble_eq_true rfl) dl_327 rfl (fun r σ1 H1 locs1 hq hP hD hS => ?_)
  match r, hq with
  | some (.int x), hq =>
    generalize H1 = H at hP hS ⊢
    refine lv_aload_n X.1 X.2.1 dl_330 rfl (lv_at hl 1 rfl) ?_
    refine lv_aload_n X.1 X.2.1 dl_331 rfl (lv_at hl 3 rfl) ?_
    refine lv_iload_n X.1 X.2.1 dl_332 rfl (lv_at hl 0 rfl) ?_
    refine lv_iconst (v := 1) X.1 X.2.1 dl_333 (by decide) ?_
    refine lv_iadd X.1 X.2.1 dl_334 ?_
    rw [e1]
    refine va_sld X.1 X.2.1 hX hbl hbA hS (vp_in_nI (n := 3 * k + 1) (by omega) (by omega)) dl_335 ?_
    rw [nI_clamp (n := 3 * k + 1) (by omega)]
    refine lw_call (cal := 141) (b := 97) (vs := [.int (xs (3 * k + 1))]) (rest := [.int x]) X gd_141 (by decide +kernel) (fds := _) (by exact rfl) (mem_at (p := 1014) (by decide +kernel)) rfl (Nat.le_of_ble_eq_true rfl) (Nat.le_of_ble_eq_true rfl) hq hP hD hS hl.1 (Nat.le_of_ble_eq_true rfl) (Nat.le_of_ble_eq_true rfl) dl_336 rfl (fun r' σ1 H1 locs1 hq2 hP hD hS => ?_)
    match r', hq2 with
    | some (.int x2), hq2 =>
      obtain ⟨hx, hi2⟩ := hq2
      subst hx
      refine lv_icmp_eq (tgt := 427) X.1 X.2.1 dl_339 (by decide) (fun _ => ?_) (fun z => absurd rfl z)
      exact tail _ _ _ _ ⟨hi2, hP, hD, hS, hl⟩
set_option maxRecDepth 20000 in
theorem lw_op10 {k : Nat} {σ : yS} {H : Heap} {locs : List Loc} {ls : Array Slot} (X : kX p s m #[Value.ref b] c R_law code 4 ty D) (hX : va_X b L xs s s.heap) (hbl : b < s.heap.size) (hL : L ≤ 1536) (hk : 3 * k + 2 < L) (h : lwI ad ty D s b k σ H locs ls) (tail : ∀ (σ' : yS) (H' : Heap) (locs' : List Loc) (ls' : Array Slot), lwI ad ty D s b k σ' H' locs' ls' → W p l e room_1 s m #[Value.ref b] below meth c H' locs' 118 4678 (lw_Z below #[Value.ref b] s) (F0 m 427 ls' [])) : W p l e room_1 s m #[Value.ref b] below meth c H locs 118 4678 (lw_Z below #[Value.ref b] s) (F0 m 344 ls []) := by
  obtain ⟨hi, hP, hD, hS, hl⟩ := h
  have hbA : ¬ (fun q : Nat => s.heap.size ≤ q) b := Nat.not_le.mpr hbl
  have e1 : nI (3 * k) + 1 = nI (3 * k + 1) := nI_add (3 * k) 1
  have e2 : nI (3 * k) + 2 = nI (3 * k + 2) := nI_add (3 * k) 2
  refine lv_aload_n X.1 X.2.1 dl_344 rfl (lv_at hl 2 rfl) ?_
  refine lv_aload_n X.1 X.2.1 dl_345 rfl (lv_at hl 3 rfl) ?_
  refine lv_iload_n X.1 X.2.1 dl_346 rfl (lv_at hl 0 rfl) ?_
  refine lv_iconst (v := 1) X.1 X.2.1 dl_347 (by decide) ?_
  refine lv_iadd X.1 X.2.1 dl_348 ?_
  rw [e1]
  refine va_sld X.1 X.2.1 hX hbl hbA hS (vp_in_nI (n := 3 * k + 1) (by omega) (by omega)) dl_349 ?_
  rw [nI_clamp (n := 3 * k + 1) (by omega)]
  refine lv_aload_n X.1 X.2.1 dl_350 rfl (lv_at hl 3 rfl) ?_
  refine lv_iload_n X.1 X.2.1 dl_351 rfl (lv_at hl 0 rfl) ?_
  refine lv_iconst (v := 2) X.1 X.2.1 dl_352 (by decide) ?_
  refine lv_iadd X.1 X.2.1 dl_353 ?_
  rw [e2]
  refine va_sld X.1 X.2.1 hX hbl hbA hS (vp_in_nI (n := 3 * k + 2) (by omega) (by omega)) dl_354 ?_
  rw [nI_clamp (n := 3 * k + 2) (by omega)]
  refine lw_call (cal := 62) (b := 0) (vs := [.int (xs (3 * k + 1)), .int (xs (3 * k + 2))]) (rest := []) X gd_62 (by decide +kernel) (fds := _) (by exact rfl) (mem_at (p := 620) (by decide +kernel)) rfl (Nat.le_of_ble_eq_true rfl) (Nat.le_of_ble_eq_true rfl) (op_alone (d := 0) hi) hP hD hS hl.1 (Nat.le_of_ble_eq_true rfl) (Nat.le_of_ble_eq_true rfl) dl_355 rfl (fun r σ1 H1 locs1 hq hP hD hS => ?_)
  match r, hq with
  | some (.int x), hq =>
    generalize H1 = H at hP hS ⊢
    refine lv_aload_n X.1 X.2.1 dl_358 rfl (lv_at hl 1 rfl) ?_
    refine lv_aload_n X.1 X.2.1 dl_359 rfl (lv_at hl 3 rfl) ?_
    refine lv_iload_n X.1 X.2.1 dl_360 rfl (lv_at hl 0 rfl) ?_
    refine lv_iconst (v := 1) X.1 X.2.1 dl_361 (by decide) ?_
    refine lv_iadd X.1 X.2.1 dl_362 ?_
    rw [e1]
    refine va_sld X.1 X.2.1 hX hbl hbA hS (vp_in_nI (n := 3 * k + 1) (by omega) (by omega)) dl_363 ?_
    rw [nI_clamp (n := 3 * k + 1) (by omega)]
    refine lv_aload_n X.1 X.2.1 dl_364 rfl (lv_at hl 3 rfl) ?_
    refine lv_iload_n X.1 X.2.1 dl_365 rfl (lv_at hl 0 rfl) ?_
    refine lv_iconst (v := 2) X.1 X.2.1 dl_366 (by decide) ?_
    refine lv_iadd X.1 X.2.1 dl_367 ?_
    rw [e2]
    refine va_sld X.1 X.2.1 hX hbl hbA hS (vp_in_nI (n := 3 * k + 2) (by omega) (by omega)) dl_368 ?_
    rw [nI_clamp (n := 3 * k + 2) (by omega)]
    refine lw_call (cal := 142) (b := 97) (vs := [.int (xs (3 * k + 1)), .int (xs (3 * k + 2))]) (rest := [.int x]) X gd_142 (by decide +kernel) (fds := _) (by exact rfl) (mem_at (p := 1018) (by decide +kernel)) rfl (Nat.le_of_ble_eq_true rfl) (Nat.le_of_ble_eq_true rfl) hq hP hD hS hl.1 (Nat.le_of_ble_eq_true rfl) (Nat.le_of_ble_eq_true rfl) dl_369 rfl (fun r' σ1 H1 locs1 hq2 hP hD hS => ?_)
    match r', hq2 with
    | some (.int x2), hq2 =>
      obtain ⟨hx, hi2⟩ := hq2
      subst hx
      refine lv_icmp_eq (tgt := 427) X.1 X.2.1 dl_372 (by decide) (fun _ => ?_) (fun z => absurd rfl z)
      exact tail _ _ _ _ ⟨hi2, hP, hD, hS, hl⟩
set_option maxRecDepth 20000 in
theorem lw_op11 {k : Nat} {σ : yS} {H : Heap} {locs : List Loc} {ls : Array Slot} (X : kX p s m #[Value.ref b] c R_law code 4 ty D) (hX : va_X b L xs s s.heap) (hbl : b < s.heap.size) (hL : L ≤ 1536) (hk : 3 * k + 2 < L) (h : lwI ad ty D s b k σ H locs ls) (tail : ∀ (σ' : yS) (H' : Heap) (locs' : List Loc) (ls' : Array Slot), lwI ad ty D s b k σ' H' locs' ls' → W p l e room_1 s m #[Value.ref b] below meth c H' locs' 118 4678 (lw_Z below #[Value.ref b] s) (F0 m 427 ls' [])) : W p l e room_1 s m #[Value.ref b] below meth c H locs 118 4678 (lw_Z below #[Value.ref b] s) (F0 m 377 ls []) := by
  obtain ⟨hi, hP, hD, hS, hl⟩ := h
  have hbA : ¬ (fun q : Nat => s.heap.size ≤ q) b := Nat.not_le.mpr hbl
  have e1 : nI (3 * k) + 1 = nI (3 * k + 1) := nI_add (3 * k) 1
  have e2 : nI (3 * k) + 2 = nI (3 * k + 2) := nI_add (3 * k) 2
  refine lv_aload_n X.1 X.2.1 dl_377 rfl (lv_at hl 2 rfl) ?_
  refine lw_call (cal := 63) (b := 0) (vs := []) (rest := []) X gd_63 (by decide +kernel) (fds := _) (by exact rfl) (mem_at (p := 628) (by decide +kernel)) rfl (Nat.le_of_ble_eq_true rfl) (Nat.le_of_ble_eq_true rfl) (op_back (d := 0) hi) hP hD hS hl.1 (Nat.le_of_ble_eq_true rfl) (Nat.le_of_ble_eq_true rfl) dl_378 rfl (fun r σ1 H1 locs1 hq hP hD hS => ?_)
  match r, hq with
  | some (.int x), hq =>
    generalize H1 = H at hP hS ⊢
    refine lv_aload_n X.1 X.2.1 dl_381 rfl (lv_at hl 1 rfl) ?_
    refine lw_call (cal := 84) (b := 97) (vs := []) (rest := [.int x]) X gd_84 (by decide +kernel) (fds := _) (by exact rfl) (mem_at (p := 777) (by decide +kernel)) rfl (Nat.le_of_ble_eq_true rfl) (Nat.le_of_ble_eq_true rfl) hq hP hD hS hl.1 (Nat.le_of_ble_eq_true rfl) (Nat.le_of_ble_eq_true rfl) dl_382 rfl (fun r' σ1 H1 locs1 hq2 hP hD hS => ?_)
    match r', hq2 with
    | some (.int x2), hq2 =>
      obtain ⟨hx, hi2⟩ := hq2
      subst hx
      refine lv_icmp_eq (tgt := 427) X.1 X.2.1 dl_385 (by decide) (fun _ => ?_) (fun z => absurd rfl z)
      exact tail _ _ _ _ ⟨hi2, hP, hD, hS, hl⟩
set_option maxRecDepth 20000 in
theorem lw_op12 {k : Nat} {σ : yS} {H : Heap} {locs : List Loc} {ls : Array Slot} (X : kX p s m #[Value.ref b] c R_law code 4 ty D) (hX : va_X b L xs s s.heap) (hbl : b < s.heap.size) (hL : L ≤ 1536) (hk : 3 * k + 2 < L) (h : lwI ad ty D s b k σ H locs ls) (tail : ∀ (σ' : yS) (H' : Heap) (locs' : List Loc) (ls' : Array Slot), lwI ad ty D s b k σ' H' locs' ls' → W p l e room_1 s m #[Value.ref b] below meth c H' locs' 118 4678 (lw_Z below #[Value.ref b] s) (F0 m 427 ls' [])) : W p l e room_1 s m #[Value.ref b] below meth c H locs 118 4678 (lw_Z below #[Value.ref b] s) (F0 m 390 ls []) := by
  obtain ⟨hi, hP, hD, hS, hl⟩ := h
  have hbA : ¬ (fun q : Nat => s.heap.size ≤ q) b := Nat.not_le.mpr hbl
  have e1 : nI (3 * k) + 1 = nI (3 * k + 1) := nI_add (3 * k) 1
  have e2 : nI (3 * k) + 2 = nI (3 * k + 2) := nI_add (3 * k) 2
  refine lv_aload_n X.1 X.2.1 dl_390 rfl (lv_at hl 2 rfl) ?_
  refine lv_aload_n X.1 X.2.1 dl_391 rfl (lv_at hl 3 rfl) ?_
  refine lv_iload_n X.1 X.2.1 dl_392 rfl (lv_at hl 0 rfl) ?_
  refine lv_iconst (v := 1) X.1 X.2.1 dl_393 (by decide) ?_
  refine lv_iadd X.1 X.2.1 dl_394 ?_
  rw [e1]
  refine va_sld X.1 X.2.1 hX hbl hbA hS (vp_in_nI (n := 3 * k + 1) (by omega) (by omega)) dl_395 ?_
  rw [nI_clamp (n := 3 * k + 1) (by omega)]
  refine lw_call (cal := 64) (b := 0) (vs := [.int (xs (3 * k + 1))]) (rest := []) X gd_64 (by decide +kernel) (fds := _) (by exact rfl) (mem_at (p := 637) (by decide +kernel)) rfl (Nat.le_of_ble_eq_true rfl) (Nat.le_of_ble_eq_true rfl) (op_told (d := 0) hi) hP hD hS hl.1 (Nat.le_of_ble_eq_true rfl) (Nat.le_of_ble_eq_true rfl) dl_396 rfl (fun r σ1 H1 locs1 hq hP hD hS => ?_)
  match r, hq with
  | some (.int x), hq =>
    generalize H1 = H at hP hS ⊢
    refine lv_aload_n X.1 X.2.1 dl_399 rfl (lv_at hl 1 rfl) ?_
    refine lv_aload_n X.1 X.2.1 dl_400 rfl (lv_at hl 3 rfl) ?_
    refine lv_iload_n X.1 X.2.1 dl_401 rfl (lv_at hl 0 rfl) ?_
    refine lv_iconst (v := 1) X.1 X.2.1 dl_402 (by decide) ?_
    refine lv_iadd X.1 X.2.1 dl_403 ?_
    rw [e1]
    refine va_sld X.1 X.2.1 hX hbl hbA hS (vp_in_nI (n := 3 * k + 1) (by omega) (by omega)) dl_404 ?_
    rw [nI_clamp (n := 3 * k + 1) (by omega)]
    refine lw_call (cal := 144) (b := 97) (vs := [.int (xs (3 * k + 1))]) (rest := [.int x]) X gd_144 (by decide +kernel) (fds := _) (by exact rfl) (mem_at (p := 1022) (by decide +kernel)) rfl (Nat.le_of_ble_eq_true rfl) (Nat.le_of_ble_eq_true rfl) hq hP hD hS hl.1 (Nat.le_of_ble_eq_true rfl) (Nat.le_of_ble_eq_true rfl) dl_405 rfl (fun r' σ1 H1 locs1 hq2 hP hD hS => ?_)
    match r', hq2 with
    | some (.int x2), hq2 =>
      obtain ⟨hx, hi2⟩ := hq2
      subst hx
      refine lv_icmp_eq (tgt := 427) X.1 X.2.1 dl_408 (by decide) (fun _ => ?_) (fun z => absurd rfl z)
      exact tail _ _ _ _ ⟨hi2, hP, hD, hS, hl⟩
set_option maxRecDepth 20000 in
theorem lw_op13 {k : Nat} {σ : yS} {H : Heap} {locs : List Loc} {ls : Array Slot} (X : kX p s m #[Value.ref b] c R_law code 4 ty D) (hX : va_X b L xs s s.heap) (hbl : b < s.heap.size) (hL : L ≤ 1536) (hk : 3 * k + 2 < L) (h : lwI ad ty D s b k σ H locs ls) (tail : ∀ (σ' : yS) (H' : Heap) (locs' : List Loc) (ls' : Array Slot), lwI ad ty D s b k σ' H' locs' ls' → W p l e room_1 s m #[Value.ref b] below meth c H' locs' 118 4678 (lw_Z below #[Value.ref b] s) (F0 m 427 ls' [])) : W p l e room_1 s m #[Value.ref b] below meth c H locs 118 4678 (lw_Z below #[Value.ref b] s) (F0 m 413 ls []) := by
  obtain ⟨hi, hP, hD, hS, hl⟩ := h
  have hbA : ¬ (fun q : Nat => s.heap.size ≤ q) b := Nat.not_le.mpr hbl
  have e1 : nI (3 * k) + 1 = nI (3 * k + 1) := nI_add (3 * k) 1
  have e2 : nI (3 * k) + 2 = nI (3 * k + 2) := nI_add (3 * k) 2
  refine lv_aload_n X.1 X.2.1 dl_413 rfl (lv_at hl 2 rfl) ?_
  refine lw_call (cal := 65) (b := 0) (vs := []) (rest := []) X gd_65 (by decide +kernel) (fds := _) (by exact rfl) (mem_at (p := 645) (by decide +kernel)) rfl (Nat.le_of_ble_eq_true rfl) (Nat.le_of_ble_eq_true rfl) (op_digest (d := 0) hi) hP hD hS hl.1 (Nat.le_of_ble_eq_true rfl) (Nat.le_of_ble_eq_true rfl) dl_414 rfl (fun r σ1 H1 locs1 hq hP hD hS => ?_)
  match r, hq with
  | some (.long x), hq =>
    generalize H1 = H at hP hS ⊢
    refine lv_aload_n X.1 X.2.1 dl_417 rfl (lv_at hl 1 rfl) ?_
    refine lw_call (cal := 146) (b := 97) (vs := []) (rest := [.long x]) X gd_146 (by decide +kernel) (fds := _) (by exact rfl) (mem_at (p := 1034) (by decide +kernel)) rfl (Nat.le_of_ble_eq_true rfl) (Nat.le_of_ble_eq_true rfl) hq hP hD hS hl.1 (Nat.le_of_ble_eq_true rfl) (Nat.le_of_ble_eq_true rfl) dl_418 rfl (fun r' σ1 H1 locs1 hq2 hP hD hS => ?_)
    match r', hq2 with
    | some (.long x2), hq2 =>
      obtain ⟨hx, hi2⟩ := hq2
      subst hx
      refine W.lcmp X.1 X.2.1 dl_421 ?_
      refine lv_if_eq (tgt := 427) X.1 X.2.1 dl_422 (by decide) (fun _ => ?_) (fun z => absurd (by unfold lg_cmp; rw [if_neg (Int64.lt_irrefl), if_pos rfl]) z)
      exact tail _ _ _ _ ⟨hi2, hP, hD, hS, hl⟩
end LOOP
