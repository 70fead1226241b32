/-! the 26 cases of the law, as they stand -/
section LC
variable {ω : Om} {b0 Ln B m i : Nat} {xs : Nat → Int32} {h : AH} {P : AH → Prop}
theorem lc_addRoll (hl : Ln ≤ 3072) (hi : i + 5 < Ln) (s8 : gs h B = some (8, 8)) (sem : Ex ω M8_addRoll 0 [some (.ref B), some (.int (xs (i + 1))), some (.int (xs (i + 2)))] [] h 0 0 (fun v h1 => ∃ y : Int32, v = some (.int y) ∧ gs h1 m = some (9, 17) ∧ Ex ω M9_addRoll 0 [some (.ref m), some (.int (xs (i + 1))), some (.int (xs (i + 2))), none, none] [] h1 0 0 (fun v2 h2 => v2 = some (.int y) ∧ P h2))) (fin : ∀ h2, P h2 → EL ω b0 Ln xs 811 [some (.ref b0), some (.ref B), some (.ref m), some (.int (nI i))] [] h2 330 7757) : EL ω b0 Ln xs 152 [some (.ref b0), some (.ref B), some (.ref m), some (.int (nI i))] [] h 330 7757 := by
  refine e_aload1 153 dL_law_152 rfl ?_
  refine e_arg 1 158 dL_law_153 dL_law_154 dL_law_155 dL_law_156 dL_law_157 rfl rfl (by omega) hl ?_
  refine e_arg 2 163 dL_law_158 dL_law_159 dL_law_160 dL_law_161 dL_law_162 rfl rfl (by omega) hl ?_
  refine e_callV 166 B [.int (xs (i + 1)), .int (xs (i + 2))] [] dL_law_163 rfl lk_8_addRoll ⟨wd104, wd105, wd106⟩ ⟨by decide, by decide⟩ (recvO cf8 (fun _ => s8)) rfl rfl (Nat.le_of_ble_eq_true rfl) (Nat.le_of_ble_eq_true rfl) (by decide) (by decide) ?_
  refine sem.mono (fun v h1 ⟨y, hy, s9, q1⟩ => ?_)
  subst hy
  refine e_aload2 167 dL_law_166 rfl ?_
  refine e_arg 1 172 dL_law_167 dL_law_168 dL_law_169 dL_law_170 dL_law_171 rfl rfl (by omega) hl ?_
  refine e_arg 2 177 dL_law_172 dL_law_173 dL_law_174 dL_law_175 dL_law_176 rfl rfl (by omega) hl ?_
  refine e_callV 180 m [.int (xs (i + 1)), .int (xs (i + 2))] [.int y] dL_law_177 rfl lk_9_addRoll ⟨wd193, wd194, wd195⟩ ⟨by decide, by decide⟩ (recvO cf9 (fun _ => s9)) rfl rfl (Nat.le_of_ble_eq_true rfl) (Nat.le_of_ble_eq_true rfl) (by decide) (by decide) ?_
  refine q1.mono (fun v2 h2 ⟨hy, q2⟩ => ?_)
  subst hy
  exact e_icmp_eq 183 811 dL_law_180 rfl (by decide) (fun _ => fin h2 q2) (fun c => absurd rfl c)
theorem lc_weaken (hl : Ln ≤ 3072) (hi : i + 5 < Ln) (s8 : gs h B = some (8, 8)) (sem : Ex ω M8_weaken 0 [some (.ref B), some (.int (xs (i + 1))), some (.int (xs (i + 2))), some (.int (xs (i + 3)))] [] h 0 0 (fun v h1 => ∃ y : Int32, v = some (.int y) ∧ gs h1 m = some (9, 17) ∧ Ex ω M9_weaken 0 [some (.ref m), some (.int (xs (i + 1))), some (.int (xs (i + 2))), some (.int (xs (i + 3))), none, none] [] h1 0 0 (fun v2 h2 => v2 = some (.int y) ∧ P h2))) (fin : ∀ h2, P h2 → EL ω b0 Ln xs 811 [some (.ref b0), some (.ref B), some (.ref m), some (.int (nI i))] [] h2 330 7757) : EL ω b0 Ln xs 185 [some (.ref b0), some (.ref B), some (.ref m), some (.int (nI i))] [] h 330 7757 := by
  refine e_aload1 186 dL_law_185 rfl ?_
  refine e_arg 1 191 dL_law_186 dL_law_187 dL_law_188 dL_law_189 dL_law_190 rfl rfl (by omega) hl ?_
  refine e_arg 2 196 dL_law_191 dL_law_192 dL_law_193 dL_law_194 dL_law_195 rfl rfl (by omega) hl ?_
  refine e_arg 3 201 dL_law_196 dL_law_197 dL_law_198 dL_law_199 dL_law_200 rfl rfl (by omega) hl ?_
  refine e_callV 204 B [.int (xs (i + 1)), .int (xs (i + 2)), .int (xs (i + 3))] [] dL_law_201 rfl lk_8_weaken ⟨wd208, wd209, wd210⟩ ⟨by decide, by decide⟩ (recvO cf8 (fun _ => s8)) rfl rfl (Nat.le_of_ble_eq_true rfl) (Nat.le_of_ble_eq_true rfl) (by decide) (by decide) ?_
  refine sem.mono (fun v h1 ⟨y, hy, s9, q1⟩ => ?_)
  subst hy
  refine e_aload2 205 dL_law_204 rfl ?_
  refine e_arg 1 210 dL_law_205 dL_law_206 dL_law_207 dL_law_208 dL_law_209 rfl rfl (by omega) hl ?_
  refine e_arg 2 215 dL_law_210 dL_law_211 dL_law_212 dL_law_213 dL_law_214 rfl rfl (by omega) hl ?_
  refine e_arg 3 220 dL_law_215 dL_law_216 dL_law_217 dL_law_218 dL_law_219 rfl rfl (by omega) hl ?_
  refine e_callV 223 m [.int (xs (i + 1)), .int (xs (i + 2)), .int (xs (i + 3))] [.int y] dL_law_220 rfl lk_9_weaken ⟨wd224, wd225, wd226⟩ ⟨by decide, by decide⟩ (recvO cf9 (fun _ => s9)) rfl rfl (Nat.le_of_ble_eq_true rfl) (Nat.le_of_ble_eq_true rfl) (by decide) (by decide) ?_
  refine q1.mono (fun v2 h2 ⟨hy, q2⟩ => ?_)
  subst hy
  exact e_icmp_eq 226 811 dL_law_223 rfl (by decide) (fun _ => fin h2 q2) (fun c => absurd rfl c)
theorem lc_roll (hl : Ln ≤ 3072) (hi : i + 5 < Ln) (s8 : gs h B = some (8, 8)) (sem : Ex ω M8_roll 0 [some (.ref B), some (.int (xs (i + 1))), some (.int (xs (i + 2)))] [] h 0 0 (fun v h1 => ∃ y : Int32, v = some (.int y) ∧ gs h1 m = some (9, 17) ∧ Ex ω M9_roll 0 [some (.ref m), some (.int (xs (i + 1))), some (.int (xs (i + 2))), none, none] [] h1 0 0 (fun v2 h2 => v2 = some (.int y) ∧ P h2))) (fin : ∀ h2, P h2 → EL ω b0 Ln xs 811 [some (.ref b0), some (.ref B), some (.ref m), some (.int (nI i))] [] h2 330 7757) : EL ω b0 Ln xs 228 [some (.ref b0), some (.ref B), some (.ref m), some (.int (nI i))] [] h 330 7757 := by
  refine e_aload1 229 dL_law_228 rfl ?_
  refine e_arg 1 234 dL_law_229 dL_law_230 dL_law_231 dL_law_232 dL_law_233 rfl rfl (by omega) hl ?_
  refine e_arg 2 239 dL_law_234 dL_law_235 dL_law_236 dL_law_237 dL_law_238 rfl rfl (by omega) hl ?_
  refine e_callV 242 B [.int (xs (i + 1)), .int (xs (i + 2))] [] dL_law_239 rfl lk_8_roll ⟨wd237, wd238, wd239⟩ ⟨by decide, by decide⟩ (recvO cf8 (fun _ => s8)) rfl rfl (Nat.le_of_ble_eq_true rfl) (Nat.le_of_ble_eq_true rfl) (by decide) (by decide) ?_
  refine sem.mono (fun v h1 ⟨y, hy, s9, q1⟩ => ?_)
  subst hy
  refine e_aload2 243 dL_law_242 rfl ?_
  refine e_arg 1 248 dL_law_243 dL_law_244 dL_law_245 dL_law_246 dL_law_247 rfl rfl (by omega) hl ?_
  refine e_arg 2 253 dL_law_248 dL_law_249 dL_law_250 dL_law_251 dL_law_252 rfl rfl (by omega) hl ?_
  refine e_callV 256 m [.int (xs (i + 1)), .int (xs (i + 2))] [.int y] dL_law_253 rfl lk_9_roll ⟨wd249, wd250, wd251⟩ ⟨by decide, by decide⟩ (recvO cf9 (fun _ => s9)) rfl rfl (Nat.le_of_ble_eq_true rfl) (Nat.le_of_ble_eq_true rfl) (by decide) (by decide) ?_
  refine q1.mono (fun v2 h2 ⟨hy, q2⟩ => ?_)
  subst hy
  exact e_icmp_eq 259 811 dL_law_256 rfl (by decide) (fun _ => fin h2 q2) (fun c => absurd rfl c)
theorem lc_addPallet (hl : Ln ≤ 3072) (hi : i + 5 < Ln) (s8 : gs h B = some (8, 8)) (sem : Ex ω M8_addPallet 0 [some (.ref B), some (.int (xs (i + 1))), some (.int (xs (i + 2))), some (.int (xs (i + 3))), some (.int (xs (i + 4))), some (.int (xs (i + 5))), none] [] h 0 0 (fun v h1 => ∃ y : Int32, v = some (.int y) ∧ gs h1 m = some (9, 17) ∧ Ex ω M9_addPallet 0 [some (.ref m), some (.int (xs (i + 1))), some (.int (xs (i + 2))), some (.int (xs (i + 3))), some (.int (xs (i + 4))), some (.int (xs (i + 5))), none] [] h1 0 0 (fun v2 h2 => v2 = some (.int y) ∧ P h2))) (fin : ∀ h2, P h2 → EL ω b0 Ln xs 811 [some (.ref b0), some (.ref B), some (.ref m), some (.int (nI i))] [] h2 330 7757) : EL ω b0 Ln xs 261 [some (.ref b0), some (.ref B), some (.ref m), some (.int (nI i))] [] h 330 7757 := by
  refine e_aload1 262 dL_law_261 rfl ?_
  refine e_arg 1 267 dL_law_262 dL_law_263 dL_law_264 dL_law_265 dL_law_266 rfl rfl (by omega) hl ?_
  refine e_arg 2 272 dL_law_267 dL_law_268 dL_law_269 dL_law_270 dL_law_271 rfl rfl (by omega) hl ?_
  refine e_arg 3 277 dL_law_272 dL_law_273 dL_law_274 dL_law_275 dL_law_276 rfl rfl (by omega) hl ?_
  refine e_arg 4 282 dL_law_277 dL_law_278 dL_law_279 dL_law_280 dL_law_281 rfl rfl (by omega) hl ?_
  refine e_arg 5 287 dL_law_282 dL_law_283 dL_law_284 dL_law_285 dL_law_286 rfl rfl (by omega) hl ?_
  refine e_callV 290 B [.int (xs (i + 1)), .int (xs (i + 2)), .int (xs (i + 3)), .int (xs (i + 4)), .int (xs (i + 5))] [] dL_law_287 rfl lk_8_addPallet ⟨wd258, wd259, wd260⟩ ⟨by decide, by decide⟩ (recvO cf8 (fun _ => s8)) rfl rfl (Nat.le_of_ble_eq_true rfl) (Nat.le_of_ble_eq_true rfl) (by decide) (by decide) ?_
  refine sem.mono (fun v h1 ⟨y, hy, s9, q1⟩ => ?_)
  subst hy
  refine e_aload2 291 dL_law_290 rfl ?_
  refine e_arg 1 296 dL_law_291 dL_law_292 dL_law_293 dL_law_294 dL_law_295 rfl rfl (by omega) hl ?_
  refine e_arg 2 301 dL_law_296 dL_law_297 dL_law_298 dL_law_299 dL_law_300 rfl rfl (by omega) hl ?_
  refine e_arg 3 306 dL_law_301 dL_law_302 dL_law_303 dL_law_304 dL_law_305 rfl rfl (by omega) hl ?_
  refine e_arg 4 311 dL_law_306 dL_law_307 dL_law_308 dL_law_309 dL_law_310 rfl rfl (by omega) hl ?_
  refine e_arg 5 316 dL_law_311 dL_law_312 dL_law_313 dL_law_314 dL_law_315 rfl rfl (by omega) hl ?_
  refine e_callV 319 m [.int (xs (i + 1)), .int (xs (i + 2)), .int (xs (i + 3)), .int (xs (i + 4)), .int (xs (i + 5))] [.int y] dL_law_316 rfl lk_9_addPallet ⟨wd275, wd276, wd277⟩ ⟨by decide, by decide⟩ (recvO cf9 (fun _ => s9)) rfl rfl (Nat.le_of_ble_eq_true rfl) (Nat.le_of_ble_eq_true rfl) (by decide) (by decide) ?_
  refine q1.mono (fun v2 h2 ⟨hy, q2⟩ => ?_)
  subst hy
  exact e_icmp_eq 322 811 dL_law_319 rfl (by decide) (fun _ => fin h2 q2) (fun c => absurd rfl c)
theorem lc_drop (hl : Ln ≤ 3072) (hi : i + 5 < Ln) (s8 : gs h B = some (8, 8)) (sem : Ex ω M8_drop 0 [some (.ref B), some (.int (xs (i + 1))), none] [] h 0 0 (fun v h1 => ∃ y : Int32, v = some (.int y) ∧ gs h1 m = some (9, 17) ∧ Ex ω M9_drop 0 [some (.ref m), some (.int (xs (i + 1))), none] [] h1 0 0 (fun v2 h2 => v2 = some (.int y) ∧ P h2))) (fin : ∀ h2, P h2 → EL ω b0 Ln xs 811 [some (.ref b0), some (.ref B), some (.ref m), some (.int (nI i))] [] h2 330 7757) : EL ω b0 Ln xs 324 [some (.ref b0), some (.ref B), some (.ref m), some (.int (nI i))] [] h 330 7757 := by
  refine e_aload1 325 dL_law_324 rfl ?_
  refine e_arg 1 330 dL_law_325 dL_law_326 dL_law_327 dL_law_328 dL_law_329 rfl rfl (by omega) hl ?_
  refine e_callV 333 B [.int (xs (i + 1))] [] dL_law_330 rfl lk_8_drop ⟨wd285, wd286, wd287⟩ ⟨by decide, by decide⟩ (recvO cf8 (fun _ => s8)) rfl rfl (Nat.le_of_ble_eq_true rfl) (Nat.le_of_ble_eq_true rfl) (by decide) (by decide) ?_
  refine sem.mono (fun v h1 ⟨y, hy, s9, q1⟩ => ?_)
  subst hy
  refine e_aload2 334 dL_law_333 rfl ?_
  refine e_arg 1 339 dL_law_334 dL_law_335 dL_law_336 dL_law_337 dL_law_338 rfl rfl (by omega) hl ?_
  refine e_callV 342 m [.int (xs (i + 1))] [.int y] dL_law_339 rfl lk_9_drop ⟨wd297, wd298, wd299⟩ ⟨by decide, by decide⟩ (recvO cf9 (fun _ => s9)) rfl rfl (Nat.le_of_ble_eq_true rfl) (Nat.le_of_ble_eq_true rfl) (by decide) (by decide) ?_
  refine q1.mono (fun v2 h2 ⟨hy, q2⟩ => ?_)
  subst hy
  exact e_icmp_eq 345 811 dL_law_342 rfl (by decide) (fun _ => fin h2 q2) (fun c => absurd rfl c)
theorem lc_waiting (hl : Ln ≤ 3072) (hi : i + 5 < Ln) (s8 : gs h B = some (8, 8)) (sem : Ex ω M8_waiting 0 [some (.ref B), some (.int (xs (i + 1))), some (.int (xs (i + 2)))] [] h 0 0 (fun v h1 => ∃ y : Int32, v = some (.int y) ∧ gs h1 m = some (9, 17) ∧ Ex ω M9_waiting 0 [some (.ref m), some (.int (xs (i + 1))), some (.int (xs (i + 2))), none] [] h1 0 0 (fun v2 h2 => v2 = some (.int y) ∧ P h2))) (fin : ∀ h2, P h2 → EL ω b0 Ln xs 811 [some (.ref b0), some (.ref B), some (.ref m), some (.int (nI i))] [] h2 330 7757) : EL ω b0 Ln xs 347 [some (.ref b0), some (.ref B), some (.ref m), some (.int (nI i))] [] h 330 7757 := by
  refine e_aload1 348 dL_law_347 rfl ?_
  refine e_arg 1 353 dL_law_348 dL_law_349 dL_law_350 dL_law_351 dL_law_352 rfl rfl (by omega) hl ?_
  refine e_arg 2 358 dL_law_353 dL_law_354 dL_law_355 dL_law_356 dL_law_357 rfl rfl (by omega) hl ?_
  refine e_callV 361 B [.int (xs (i + 1)), .int (xs (i + 2))] [] dL_law_358 rfl lk_8_waiting ⟨wd309, wd310, wd311⟩ ⟨by decide, by decide⟩ (recvO cf8 (fun _ => s8)) rfl rfl (Nat.le_of_ble_eq_true rfl) (Nat.le_of_ble_eq_true rfl) (by decide) (by decide) ?_
  refine sem.mono (fun v h1 ⟨y, hy, s9, q1⟩ => ?_)
  subst hy
  refine e_aload2 362 dL_law_361 rfl ?_
  refine e_arg 1 367 dL_law_362 dL_law_363 dL_law_364 dL_law_365 dL_law_366 rfl rfl (by omega) hl ?_
  refine e_arg 2 372 dL_law_367 dL_law_368 dL_law_369 dL_law_370 dL_law_371 rfl rfl (by omega) hl ?_
  refine e_callV 375 m [.int (xs (i + 1)), .int (xs (i + 2))] [.int y] dL_law_372 rfl lk_9_waiting ⟨wd318, wd319, wd320⟩ ⟨by decide, by decide⟩ (recvO cf9 (fun _ => s9)) rfl rfl (Nat.le_of_ble_eq_true rfl) (Nat.le_of_ble_eq_true rfl) (by decide) (by decide) ?_
  refine q1.mono (fun v2 h2 ⟨hy, q2⟩ => ?_)
  subst hy
  exact e_icmp_eq 378 811 dL_law_375 rfl (by decide) (fun _ => fin h2 q2) (fun c => absurd rfl c)
theorem lc_set (hl : Ln ≤ 3072) (hi : i + 5 < Ln) (s8 : gs h B = some (8, 8)) (sem : Ex ω M8_set 0 [some (.ref B), some (.int (xs (i + 1))), some (.int (xs (i + 2))), none] [] h 0 0 (fun v h1 => ∃ y : Int32, v = some (.int y) ∧ gs h1 m = some (9, 17) ∧ Ex ω M9_set 0 [some (.ref m), some (.int (xs (i + 1))), some (.int (xs (i + 2))), none] [] h1 0 0 (fun v2 h2 => v2 = some (.int y) ∧ P h2))) (fin : ∀ h2, P h2 → EL ω b0 Ln xs 811 [some (.ref b0), some (.ref B), some (.ref m), some (.int (nI i))] [] h2 330 7757) : EL ω b0 Ln xs 380 [some (.ref b0), some (.ref B), some (.ref m), some (.int (nI i))] [] h 330 7757 := by
  refine e_aload1 381 dL_law_380 rfl ?_
  refine e_arg 1 386 dL_law_381 dL_law_382 dL_law_383 dL_law_384 dL_law_385 rfl rfl (by omega) hl ?_
  refine e_arg 2 391 dL_law_386 dL_law_387 dL_law_388 dL_law_389 dL_law_390 rfl rfl (by omega) hl ?_
  refine e_callV 394 B [.int (xs (i + 1)), .int (xs (i + 2))] [] dL_law_391 rfl lk_8_set ⟨wd326, wd327, wd328⟩ ⟨by decide, by decide⟩ (recvO cf8 (fun _ => s8)) rfl rfl (Nat.le_of_ble_eq_true rfl) (Nat.le_of_ble_eq_true rfl) (by decide) (by decide) ?_
  refine sem.mono (fun v h1 ⟨y, hy, s9, q1⟩ => ?_)
  subst hy
  refine e_aload2 395 dL_law_394 rfl ?_
  refine e_arg 1 400 dL_law_395 dL_law_396 dL_law_397 dL_law_398 dL_law_399 rfl rfl (by omega) hl ?_
  refine e_arg 2 405 dL_law_400 dL_law_401 dL_law_402 dL_law_403 dL_law_404 rfl rfl (by omega) hl ?_
  refine e_callV 408 m [.int (xs (i + 1)), .int (xs (i + 2))] [.int y] dL_law_405 rfl lk_9_set ⟨wd332, wd333, wd334⟩ ⟨by decide, by decide⟩ (recvO cf9 (fun _ => s9)) rfl rfl (Nat.le_of_ble_eq_true rfl) (Nat.le_of_ble_eq_true rfl) (by decide) (by decide) ?_
  refine q1.mono (fun v2 h2 ⟨hy, q2⟩ => ?_)
  subst hy
  exact e_icmp_eq 411 811 dL_law_408 rfl (by decide) (fun _ => fin h2 q2) (fun c => absurd rfl c)
theorem lc_undo (hl : Ln ≤ 3072) (hi : i + 5 < Ln) (s8 : gs h B = some (8, 8)) (sem : Ex ω M8_undo 0 [some (.ref B)] [] h 0 0 (fun v h1 => ∃ y : Int32, v = some (.int y) ∧ gs h1 m = some (9, 17) ∧ Ex ω M9_undo 0 [some (.ref m), none] [] h1 0 0 (fun v2 h2 => v2 = some (.int y) ∧ P h2))) (fin : ∀ h2, P h2 → EL ω b0 Ln xs 811 [some (.ref b0), some (.ref B), some (.ref m), some (.int (nI i))] [] h2 330 7757) : EL ω b0 Ln xs 413 [some (.ref b0), some (.ref B), some (.ref m), some (.int (nI i))] [] h 330 7757 := by
  refine e_aload1 414 dL_law_413 rfl ?_
  refine e_callV 417 B [] [] dL_law_414 rfl lk_8_undo ⟨wd337, wd338, wd339⟩ ⟨by decide, by decide⟩ (recvO cf8 (fun _ => s8)) rfl rfl (Nat.le_of_ble_eq_true rfl) (Nat.le_of_ble_eq_true rfl) (by decide) (by decide) ?_
  refine sem.mono (fun v h1 ⟨y, hy, s9, q1⟩ => ?_)
  subst hy
  refine e_aload2 418 dL_law_417 rfl ?_
  refine e_callV 421 m [] [.int y] dL_law_418 rfl lk_9_undo ⟨wd341, wd342, wd343⟩ ⟨by decide, by decide⟩ (recvO cf9 (fun _ => s9)) rfl rfl (Nat.le_of_ble_eq_true rfl) (Nat.le_of_ble_eq_true rfl) (by decide) (by decide) ?_
  refine q1.mono (fun v2 h2 ⟨hy, q2⟩ => ?_)
  subst hy
  exact e_icmp_eq 424 811 dL_law_421 rfl (by decide) (fun _ => fin h2 q2) (fun c => absurd rfl c)
theorem lc_count (hl : Ln ≤ 3072) (hi : i + 5 < Ln) (s8 : gs h B = some (8, 8)) (sem : Ex ω M8_count 0 [some (.ref B), some (.int (xs (i + 1)))] [] h 0 0 (fun v h1 => ∃ y : Int32, v = some (.int y) ∧ gs h1 m = some (9, 17) ∧ Ex ω M9_count 0 [some (.ref m), some (.int (xs (i + 1)))] [] h1 0 0 (fun v2 h2 => v2 = some (.int y) ∧ P h2))) (fin : ∀ h2, P h2 → EL ω b0 Ln xs 811 [some (.ref b0), some (.ref B), some (.ref m), some (.int (nI i))] [] h2 330 7757) : EL ω b0 Ln xs 426 [some (.ref b0), some (.ref B), some (.ref m), some (.int (nI i))] [] h 330 7757 := by
  refine e_aload1 427 dL_law_426 rfl ?_
  refine e_arg 1 432 dL_law_427 dL_law_428 dL_law_429 dL_law_430 dL_law_431 rfl rfl (by omega) hl ?_
  refine e_callV 435 B [.int (xs (i + 1))] [] dL_law_432 rfl lk_8_count ⟨wd345, wd346, wd347⟩ ⟨by decide, by decide⟩ (recvO cf8 (fun _ => s8)) rfl rfl (Nat.le_of_ble_eq_true rfl) (Nat.le_of_ble_eq_true rfl) (by decide) (by decide) ?_
  refine sem.mono (fun v h1 ⟨y, hy, s9, q1⟩ => ?_)
  subst hy
  refine e_aload2 436 dL_law_435 rfl ?_
  refine e_arg 1 441 dL_law_436 dL_law_437 dL_law_438 dL_law_439 dL_law_440 rfl rfl (by omega) hl ?_
  refine e_callV 444 m [.int (xs (i + 1))] [.int y] dL_law_441 rfl lk_9_count ⟨wd355, wd356, wd357⟩ ⟨by decide, by decide⟩ (recvO cf9 (fun _ => s9)) rfl rfl (Nat.le_of_ble_eq_true rfl) (Nat.le_of_ble_eq_true rfl) (by decide) (by decide) ?_
  refine q1.mono (fun v2 h2 ⟨hy, q2⟩ => ?_)
  subst hy
  exact e_icmp_eq 447 811 dL_law_444 rfl (by decide) (fun _ => fin h2 q2) (fun c => absurd rfl c)
theorem lc_type (hl : Ln ≤ 3072) (hi : i + 5 < Ln) (s8 : gs h B = some (8, 8)) (sem : Ex ω M8_type 0 [some (.ref B), some (.int (xs (i + 1)))] [] h 0 0 (fun v h1 => ∃ y : Int32, v = some (.int y) ∧ gs h1 m = some (9, 17) ∧ Ex ω M9_type 0 [some (.ref m), some (.int (xs (i + 1)))] [] h1 0 0 (fun v2 h2 => v2 = some (.int y) ∧ P h2))) (fin : ∀ h2, P h2 → EL ω b0 Ln xs 811 [some (.ref b0), some (.ref B), some (.ref m), some (.int (nI i))] [] h2 330 7757) : EL ω b0 Ln xs 449 [some (.ref b0), some (.ref B), some (.ref m), some (.int (nI i))] [] h 330 7757 := by
  refine e_aload1 450 dL_law_449 rfl ?_
  refine e_arg 1 455 dL_law_450 dL_law_451 dL_law_452 dL_law_453 dL_law_454 rfl rfl (by omega) hl ?_
  refine e_callV 458 B [.int (xs (i + 1))] [] dL_law_455 rfl lk_8_type ⟨wd360, wd361, wd362⟩ ⟨by decide, by decide⟩ (recvO cf8 (fun _ => s8)) rfl rfl (Nat.le_of_ble_eq_true rfl) (Nat.le_of_ble_eq_true rfl) (by decide) (by decide) ?_
  refine sem.mono (fun v h1 ⟨y, hy, s9, q1⟩ => ?_)
  subst hy
  refine e_aload2 459 dL_law_458 rfl ?_
  refine e_arg 1 464 dL_law_459 dL_law_460 dL_law_461 dL_law_462 dL_law_463 rfl rfl (by omega) hl ?_
  refine e_callV 467 m [.int (xs (i + 1))] [.int y] dL_law_464 rfl lk_9_type ⟨wd369, wd370, wd371⟩ ⟨by decide, by decide⟩ (recvO cf9 (fun _ => s9)) rfl rfl (Nat.le_of_ble_eq_true rfl) (Nat.le_of_ble_eq_true rfl) (by decide) (by decide) ?_
  refine q1.mono (fun v2 h2 ⟨hy, q2⟩ => ?_)
  subst hy
  exact e_icmp_eq 470 811 dL_law_467 rfl (by decide) (fun _ => fin h2 q2) (fun c => absurd rfl c)
theorem lc_clearText (hl : Ln ≤ 3072) (hi : i + 5 < Ln) (s8 : gs h B = some (8, 8)) (sem : Ex ω M8_clearText 0 [some (.ref B), none] [] h 0 0 (fun v h1 => ∃ y : Int32, v = some (.int y) ∧ gs h1 m = some (9, 17) ∧ Ex ω M9_clearText 0 [some (.ref m), none] [] h1 0 0 (fun v2 h2 => v2 = some (.int y) ∧ P h2))) (fin : ∀ h2, P h2 → EL ω b0 Ln xs 811 [some (.ref b0), some (.ref B), some (.ref m), some (.int (nI i))] [] h2 330 7757) : EL ω b0 Ln xs 472 [some (.ref b0), some (.ref B), some (.ref m), some (.int (nI i))] [] h 330 7757 := by
  refine e_aload1 473 dL_law_472 rfl ?_
  refine e_callV 476 B [] [] dL_law_473 rfl lk_8_clearText ⟨wd375, wd376, wd377⟩ ⟨by decide, by decide⟩ (recvO cf8 (fun _ => s8)) rfl rfl (Nat.le_of_ble_eq_true rfl) (Nat.le_of_ble_eq_true rfl) (by decide) (by decide) ?_
  refine sem.mono (fun v h1 ⟨y, hy, s9, q1⟩ => ?_)
  subst hy
  refine e_aload2 477 dL_law_476 rfl ?_
  refine e_callV 480 m [] [.int y] dL_law_477 rfl lk_9_clearText ⟨wd379, wd380, wd381⟩ ⟨by decide, by decide⟩ (recvO cf9 (fun _ => s9)) rfl rfl (Nat.le_of_ble_eq_true rfl) (Nat.le_of_ble_eq_true rfl) (by decide) (by decide) ?_
  refine q1.mono (fun v2 h2 ⟨hy, q2⟩ => ?_)
  subst hy
  exact e_icmp_eq 483 811 dL_law_480 rfl (by decide) (fun _ => fin h2 q2) (fun c => absurd rfl c)
theorem lc_fault (hl : Ln ≤ 3072) (hi : i + 5 < Ln) (s8 : gs h B = some (8, 8)) (sem : Ex ω M8_fault 0 [some (.ref B), none] [] h 0 0 (fun v h1 => ∃ y : Int32, v = some (.int y) ∧ gs h1 m = some (9, 17) ∧ Ex ω M9_fault 0 [some (.ref m)] [] h1 0 0 (fun v2 h2 => v2 = some (.int y) ∧ P h2))) (fin : ∀ h2, P h2 → EL ω b0 Ln xs 811 [some (.ref b0), some (.ref B), some (.ref m), some (.int (nI i))] [] h2 330 7757) : EL ω b0 Ln xs 485 [some (.ref b0), some (.ref B), some (.ref m), some (.int (nI i))] [] h 330 7757 := by
  refine e_aload1 486 dL_law_485 rfl ?_
  refine e_callV 489 B [] [] dL_law_486 rfl lk_8_fault ⟨wd383, wd384, wd385⟩ ⟨by decide, by decide⟩ (recvO cf8 (fun _ => s8)) rfl rfl (Nat.le_of_ble_eq_true rfl) (Nat.le_of_ble_eq_true rfl) (by decide) (by decide) ?_
  refine sem.mono (fun v h1 ⟨y, hy, s9, q1⟩ => ?_)
  subst hy
  refine e_aload2 490 dL_law_489 rfl ?_
  refine e_callV 493 m [] [.int y] dL_law_490 rfl lk_9_fault ⟨wd466, wd467, wd468⟩ ⟨by decide, by decide⟩ (recvO cf9 (fun _ => s9)) rfl rfl (Nat.le_of_ble_eq_true rfl) (Nat.le_of_ble_eq_true rfl) (by decide) (by decide) ?_
  refine q1.mono (fun v2 h2 ⟨hy, q2⟩ => ?_)
  subst hy
  exact e_icmp_eq 496 811 dL_law_493 rfl (by decide) (fun _ => fin h2 q2) (fun c => absurd rfl c)
theorem lc_load (hl : Ln ≤ 3072) (hi : i + 5 < Ln) (s8 : gs h B = some (8, 8)) (sem : Ex ω M8_load 0 [some (.ref B)] [] h 0 0 (fun v h1 => ∃ y : Int32, v = some (.int y) ∧ gs h1 m = some (9, 17) ∧ Ex ω M9_load 0 [some (.ref m), none] [] h1 0 0 (fun v2 h2 => v2 = some (.int y) ∧ P h2))) (fin : ∀ h2, P h2 → EL ω b0 Ln xs 811 [some (.ref b0), some (.ref B), some (.ref m), some (.int (nI i))] [] h2 330 7757) : EL ω b0 Ln xs 498 [some (.ref b0), some (.ref B), some (.ref m), some (.int (nI i))] [] h 330 7757 := by
  refine e_aload1 499 dL_law_498 rfl ?_
  refine e_callV 502 B [] [] dL_law_499 rfl lk_8_load ⟨wd500, wd501, wd502⟩ ⟨by decide, by decide⟩ (recvO cf8 (fun _ => s8)) rfl rfl (Nat.le_of_ble_eq_true rfl) (Nat.le_of_ble_eq_true rfl) (by decide) (by decide) ?_
  refine sem.mono (fun v h1 ⟨y, hy, s9, q1⟩ => ?_)
  subst hy
  refine e_aload2 503 dL_law_502 rfl ?_
  refine e_callV 506 m [] [.int y] dL_law_503 rfl lk_9_load ⟨wd505, wd506, wd507⟩ ⟨by decide, by decide⟩ (recvO cf9 (fun _ => s9)) rfl rfl (Nat.le_of_ble_eq_true rfl) (Nat.le_of_ble_eq_true rfl) (by decide) (by decide) ?_
  refine q1.mono (fun v2 h2 ⟨hy, q2⟩ => ?_)
  subst hy
  exact e_icmp_eq 509 811 dL_law_506 rfl (by decide) (fun _ => fin h2 q2) (fun c => absurd rfl c)
theorem lc_step (hl : Ln ≤ 3072) (hi : i + 5 < Ln) (s8 : gs h B = some (8, 8)) (sem : Ex ω M8_step 0 [some (.ref B), some (.int (xs (i + 1))), some (.int (xs (i + 2)))] [] h 0 0 (fun v h1 => ∃ y : Int32, v = some (.int y) ∧ gs h1 m = some (9, 17) ∧ Ex ω M9_step 0 [some (.ref m), some (.int (xs (i + 1))), some (.int (xs (i + 2)))] [] h1 0 0 (fun v2 h2 => v2 = some (.int y) ∧ P h2))) (fin : ∀ h2, P h2 → EL ω b0 Ln xs 811 [some (.ref b0), some (.ref B), some (.ref m), some (.int (nI i))] [] h2 330 7757) : EL ω b0 Ln xs 511 [some (.ref b0), some (.ref B), some (.ref m), some (.int (nI i))] [] h 330 7757 := by
  refine e_aload1 512 dL_law_511 rfl ?_
  refine e_arg 1 517 dL_law_512 dL_law_513 dL_law_514 dL_law_515 dL_law_516 rfl rfl (by omega) hl ?_
  refine e_arg 2 522 dL_law_517 dL_law_518 dL_law_519 dL_law_520 dL_law_521 rfl rfl (by omega) hl ?_
  refine e_callV 525 B [.int (xs (i + 1)), .int (xs (i + 2))] [] dL_law_522 rfl lk_8_step ⟨wd509, wd510, wd511⟩ ⟨by decide, by decide⟩ (recvO cf8 (fun _ => s8)) rfl rfl (Nat.le_of_ble_eq_true rfl) (Nat.le_of_ble_eq_true rfl) (by decide) (by decide) ?_
  refine sem.mono (fun v h1 ⟨y, hy, s9, q1⟩ => ?_)
  subst hy
  refine e_aload2 526 dL_law_525 rfl ?_
  refine e_arg 1 531 dL_law_526 dL_law_527 dL_law_528 dL_law_529 dL_law_530 rfl rfl (by omega) hl ?_
  refine e_arg 2 536 dL_law_531 dL_law_532 dL_law_533 dL_law_534 dL_law_535 rfl rfl (by omega) hl ?_
  refine e_callV 539 m [.int (xs (i + 1)), .int (xs (i + 2))] [.int y] dL_law_536 rfl lk_9_step ⟨wd515, wd516, wd517⟩ ⟨by decide, by decide⟩ (recvO cf9 (fun _ => s9)) rfl rfl (Nat.le_of_ble_eq_true rfl) (Nat.le_of_ble_eq_true rfl) (by decide) (by decide) ?_
  refine q1.mono (fun v2 h2 ⟨hy, q2⟩ => ?_)
  subst hy
  exact e_icmp_eq 542 811 dL_law_539 rfl (by decide) (fun _ => fin h2 q2) (fun c => absurd rfl c)
theorem lc_write (hl : Ln ≤ 3072) (hi : i + 5 < Ln) (s8 : gs h B = some (8, 8)) (sem : Ex ω M8_write 0 [some (.ref B)] [] h 0 0 (fun v h1 => ∃ y : Int32, v = some (.int y) ∧ gs h1 m = some (9, 17) ∧ Ex ω M9_write 0 [some (.ref m), none, none, none, none] [] h1 0 0 (fun v2 h2 => v2 = some (.int y) ∧ P h2))) (fin : ∀ h2, P h2 → EL ω b0 Ln xs 811 [some (.ref b0), some (.ref B), some (.ref m), some (.int (nI i))] [] h2 330 7757) : EL ω b0 Ln xs 544 [some (.ref b0), some (.ref B), some (.ref m), some (.int (nI i))] [] h 330 7757 := by
  refine e_aload1 545 dL_law_544 rfl ?_
  refine e_callV 548 B [] [] dL_law_545 rfl lk_8_write ⟨wd519, wd520, wd521⟩ ⟨by decide, by decide⟩ (recvO cf8 (fun _ => s8)) rfl rfl (Nat.le_of_ble_eq_true rfl) (Nat.le_of_ble_eq_true rfl) (by decide) (by decide) ?_
  refine sem.mono (fun v h1 ⟨y, hy, s9, q1⟩ => ?_)
  subst hy
  refine e_aload2 549 dL_law_548 rfl ?_
  refine e_callV 552 m [] [.int y] dL_law_549 rfl lk_9_write ⟨wd538, wd539, wd540⟩ ⟨by decide, by decide⟩ (recvO cf9 (fun _ => s9)) rfl rfl (Nat.le_of_ble_eq_true rfl) (Nat.le_of_ble_eq_true rfl) (by decide) (by decide) ?_
  refine q1.mono (fun v2 h2 ⟨hy, q2⟩ => ?_)
  subst hy
  exact e_icmp_eq 555 811 dL_law_552 rfl (by decide) (fun _ => fin h2 q2) (fun c => absurd rfl c)
theorem lc_textAt (hl : Ln ≤ 3072) (hi : i + 5 < Ln) (s8 : gs h B = some (8, 8)) (sem : Ex ω M8_textAt 0 [some (.ref B), some (.int (xs (i + 1)))] [] h 0 0 (fun v h1 => ∃ y : Int32, v = some (.int y) ∧ gs h1 m = some (9, 17) ∧ Ex ω M9_textAt 0 [some (.ref m), some (.int (xs (i + 1)))] [] h1 0 0 (fun v2 h2 => v2 = some (.int y) ∧ P h2))) (fin : ∀ h2, P h2 → EL ω b0 Ln xs 811 [some (.ref b0), some (.ref B), some (.ref m), some (.int (nI i))] [] h2 330 7757) : EL ω b0 Ln xs 557 [some (.ref b0), some (.ref B), some (.ref m), some (.int (nI i))] [] h 330 7757 := by
  refine e_aload1 558 dL_law_557 rfl ?_
  refine e_arg 1 563 dL_law_558 dL_law_559 dL_law_560 dL_law_561 dL_law_562 rfl rfl (by omega) hl ?_
  refine e_callV 566 B [.int (xs (i + 1))] [] dL_law_563 rfl lk_8_textAt ⟨wd546, wd547, wd548⟩ ⟨by decide, by decide⟩ (recvO cf8 (fun _ => s8)) rfl rfl (Nat.le_of_ble_eq_true rfl) (Nat.le_of_ble_eq_true rfl) (by decide) (by decide) ?_
  refine sem.mono (fun v h1 ⟨y, hy, s9, q1⟩ => ?_)
  subst hy
  refine e_aload2 567 dL_law_566 rfl ?_
  refine e_arg 1 572 dL_law_567 dL_law_568 dL_law_569 dL_law_570 dL_law_571 rfl rfl (by omega) hl ?_
  refine e_callV 575 m [.int (xs (i + 1))] [.int y] dL_law_572 rfl lk_9_textAt ⟨wd551, wd552, wd553⟩ ⟨by decide, by decide⟩ (recvO cf9 (fun _ => s9)) rfl rfl (Nat.le_of_ble_eq_true rfl) (Nat.le_of_ble_eq_true rfl) (by decide) (by decide) ?_
  refine q1.mono (fun v2 h2 ⟨hy, q2⟩ => ?_)
  subst hy
  exact e_icmp_eq 578 811 dL_law_575 rfl (by decide) (fun _ => fin h2 q2) (fun c => absurd rfl c)
theorem lc_wrap (hl : Ln ≤ 3072) (hi : i + 5 < Ln) (s8 : gs h B = some (8, 8)) (sem : Ex ω M8_wrap 0 [some (.ref B)] [] h 0 0 (fun v h1 => ∃ y : Int32, v = some (.int y) ∧ gs h1 m = some (9, 17) ∧ Ex ω M9_wrap 0 [some (.ref m)] [] h1 0 0 (fun v2 h2 => v2 = some (.int y) ∧ P h2))) (fin : ∀ h2, P h2 → EL ω b0 Ln xs 811 [some (.ref b0), some (.ref B), some (.ref m), some (.int (nI i))] [] h2 330 7757) : EL ω b0 Ln xs 580 [some (.ref b0), some (.ref B), some (.ref m), some (.int (nI i))] [] h 330 7757 := by
  refine e_aload1 581 dL_law_580 rfl ?_
  refine e_callV 584 B [] [] dL_law_581 rfl lk_8_wrap ⟨wd555, wd556, wd557⟩ ⟨by decide, by decide⟩ (recvO cf8 (fun _ => s8)) rfl rfl (Nat.le_of_ble_eq_true rfl) (Nat.le_of_ble_eq_true rfl) (by decide) (by decide) ?_
  refine sem.mono (fun v h1 ⟨y, hy, s9, q1⟩ => ?_)
  subst hy
  refine e_aload2 585 dL_law_584 rfl ?_
  refine e_callV 588 m [] [.int y] dL_law_585 rfl lk_9_wrap ⟨wd698, wd699, wd700⟩ ⟨by decide, by decide⟩ (recvO cf9 (fun _ => s9)) rfl rfl (Nat.le_of_ble_eq_true rfl) (Nat.le_of_ble_eq_true rfl) (by decide) (by decide) ?_
  refine q1.mono (fun v2 h2 ⟨hy, q2⟩ => ?_)
  subst hy
  exact e_icmp_eq 591 811 dL_law_588 rfl (by decide) (fun _ => fin h2 q2) (fun c => absurd rfl c)
theorem lc_ifWrap (hl : Ln ≤ 3072) (hi : i + 5 < Ln) (s8 : gs h B = some (8, 8)) (sem : Ex ω M8_ifWrap 0 [some (.ref B), some (.int (xs (i + 1)))] [] h 0 0 (fun v h1 => ∃ y : Int32, v = some (.int y) ∧ gs h1 m = some (9, 17) ∧ Ex ω M9_ifWrap 0 [some (.ref m), some (.int (xs (i + 1))), none] [] h1 0 0 (fun v2 h2 => v2 = some (.int y) ∧ P h2))) (fin : ∀ h2, P h2 → EL ω b0 Ln xs 811 [some (.ref b0), some (.ref B), some (.ref m), some (.int (nI i))] [] h2 330 7757) : EL ω b0 Ln xs 593 [some (.ref b0), some (.ref B), some (.ref m), some (.int (nI i))] [] h 330 7757 := by
  refine e_aload1 594 dL_law_593 rfl ?_
  refine e_arg 1 599 dL_law_594 dL_law_595 dL_law_596 dL_law_597 dL_law_598 rfl rfl (by omega) hl ?_
  refine e_callV 602 B [.int (xs (i + 1))] [] dL_law_599 rfl lk_8_ifWrap ⟨wd764, wd765, wd766⟩ ⟨by decide, by decide⟩ (recvO cf8 (fun _ => s8)) rfl rfl (Nat.le_of_ble_eq_true rfl) (Nat.le_of_ble_eq_true rfl) (by decide) (by decide) ?_
  refine sem.mono (fun v h1 ⟨y, hy, s9, q1⟩ => ?_)
  subst hy
  refine e_aload2 603 dL_law_602 rfl ?_
  refine e_arg 1 608 dL_law_603 dL_law_604 dL_law_605 dL_law_606 dL_law_607 rfl rfl (by omega) hl ?_
  refine e_callV 611 m [.int (xs (i + 1))] [.int y] dL_law_608 rfl lk_9_ifWrap ⟨wd776, wd777, wd778⟩ ⟨by decide, by decide⟩ (recvO cf9 (fun _ => s9)) rfl rfl (Nat.le_of_ble_eq_true rfl) (Nat.le_of_ble_eq_true rfl) (by decide) (by decide) ?_
  refine q1.mono (fun v2 h2 ⟨hy, q2⟩ => ?_)
  subst hy
  exact e_icmp_eq 614 811 dL_law_611 rfl (by decide) (fun _ => fin h2 q2) (fun c => absurd rfl c)
theorem lc_done (hl : Ln ≤ 3072) (hi : i + 5 < Ln) (s8 : gs h B = some (8, 8)) (sem : Ex ω M8_done 0 [some (.ref B), some (.int (xs (i + 1))), some (.int (xs (i + 2)))] [] h 0 0 (fun v h1 => ∃ y : Int32, v = some (.int y) ∧ gs h1 m = some (9, 17) ∧ Ex ω M9_done 0 [some (.ref m), some (.int (xs (i + 1))), some (.int (xs (i + 2))), none] [] h1 0 0 (fun v2 h2 => v2 = some (.int y) ∧ P h2))) (fin : ∀ h2, P h2 → EL ω b0 Ln xs 811 [some (.ref b0), some (.ref B), some (.ref m), some (.int (nI i))] [] h2 330 7757) : EL ω b0 Ln xs 616 [some (.ref b0), some (.ref B), some (.ref m), some (.int (nI i))] [] h 330 7757 := by
  refine e_aload1 617 dL_law_616 rfl ?_
  refine e_arg 1 622 dL_law_617 dL_law_618 dL_law_619 dL_law_620 dL_law_621 rfl rfl (by omega) hl ?_
  refine e_arg 2 627 dL_law_622 dL_law_623 dL_law_624 dL_law_625 dL_law_626 rfl rfl (by omega) hl ?_
  refine e_callV 630 B [.int (xs (i + 1)), .int (xs (i + 2))] [] dL_law_627 rfl lk_8_done ⟨wd789, wd790, wd791⟩ ⟨by decide, by decide⟩ (recvO cf8 (fun _ => s8)) rfl rfl (Nat.le_of_ble_eq_true rfl) (Nat.le_of_ble_eq_true rfl) (by decide) (by decide) ?_
  refine sem.mono (fun v h1 ⟨y, hy, s9, q1⟩ => ?_)
  subst hy
  refine e_aload2 631 dL_law_630 rfl ?_
  refine e_arg 1 636 dL_law_631 dL_law_632 dL_law_633 dL_law_634 dL_law_635 rfl rfl (by omega) hl ?_
  refine e_arg 2 641 dL_law_636 dL_law_637 dL_law_638 dL_law_639 dL_law_640 rfl rfl (by omega) hl ?_
  refine e_callV 644 m [.int (xs (i + 1)), .int (xs (i + 2))] [.int y] dL_law_641 rfl lk_9_done ⟨wd794, wd795, wd796⟩ ⟨by decide, by decide⟩ (recvO cf9 (fun _ => s9)) rfl rfl (Nat.le_of_ble_eq_true rfl) (Nat.le_of_ble_eq_true rfl) (by decide) (by decide) ?_
  refine q1.mono (fun v2 h2 ⟨hy, q2⟩ => ?_)
  subst hy
  exact e_icmp_eq 647 811 dL_law_644 rfl (by decide) (fun _ => fin h2 q2) (fun c => absurd rfl c)
theorem lc_zone (hl : Ln ≤ 3072) (hi : i + 5 < Ln) (s8 : gs h B = some (8, 8)) (sem : Ex ω M8_zone 0 [some (.ref B), some (.int (xs (i + 1))), some (.int (xs (i + 2))), some (.int (xs (i + 3)))] [] h 0 0 (fun v h1 => ∃ y : Int32, v = some (.int y) ∧ gs h1 m = some (9, 17) ∧ Ex ω M9_zone 0 [some (.ref m), some (.int (xs (i + 1))), some (.int (xs (i + 2))), some (.int (xs (i + 3))), none] [] h1 0 0 (fun v2 h2 => v2 = some (.int y) ∧ P h2))) (fin : ∀ h2, P h2 → EL ω b0 Ln xs 811 [some (.ref b0), some (.ref B), some (.ref m), some (.int (nI i))] [] h2 330 7757) : EL ω b0 Ln xs 649 [some (.ref b0), some (.ref B), some (.ref m), some (.int (nI i))] [] h 330 7757 := by
  refine e_aload1 650 dL_law_649 rfl ?_
  refine e_arg 1 655 dL_law_650 dL_law_651 dL_law_652 dL_law_653 dL_law_654 rfl rfl (by omega) hl ?_
  refine e_arg 2 660 dL_law_655 dL_law_656 dL_law_657 dL_law_658 dL_law_659 rfl rfl (by omega) hl ?_
  refine e_arg 3 665 dL_law_660 dL_law_661 dL_law_662 dL_law_663 dL_law_664 rfl rfl (by omega) hl ?_
  refine e_callV 668 B [.int (xs (i + 1)), .int (xs (i + 2)), .int (xs (i + 3))] [] dL_law_665 rfl lk_8_zone ⟨wd803, wd804, wd805⟩ ⟨by decide, by decide⟩ (recvO cf8 (fun _ => s8)) rfl rfl (Nat.le_of_ble_eq_true rfl) (Nat.le_of_ble_eq_true rfl) (by decide) (by decide) ?_
  refine sem.mono (fun v h1 ⟨y, hy, s9, q1⟩ => ?_)
  subst hy
  refine e_aload2 669 dL_law_668 rfl ?_
  refine e_arg 1 674 dL_law_669 dL_law_670 dL_law_671 dL_law_672 dL_law_673 rfl rfl (by omega) hl ?_
  refine e_arg 2 679 dL_law_674 dL_law_675 dL_law_676 dL_law_677 dL_law_678 rfl rfl (by omega) hl ?_
  refine e_arg 3 684 dL_law_679 dL_law_680 dL_law_681 dL_law_682 dL_law_683 rfl rfl (by omega) hl ?_
  refine e_callV 687 m [.int (xs (i + 1)), .int (xs (i + 2)), .int (xs (i + 3))] [.int y] dL_law_684 rfl lk_9_zone ⟨wd810, wd811, wd812⟩ ⟨by decide, by decide⟩ (recvO cf9 (fun _ => s9)) rfl rfl (Nat.le_of_ble_eq_true rfl) (Nat.le_of_ble_eq_true rfl) (by decide) (by decide) ?_
  refine q1.mono (fun v2 h2 ⟨hy, q2⟩ => ?_)
  subst hy
  exact e_icmp_eq 690 811 dL_law_687 rfl (by decide) (fun _ => fin h2 q2) (fun c => absurd rfl c)
theorem lc_total (hl : Ln ≤ 3072) (hi : i + 5 < Ln) (s8 : gs h B = some (8, 8)) (sem : Ex ω M8_total 0 [some (.ref B), some (.int (xs (i + 1)))] [] h 0 0 (fun v h1 => ∃ y : Int32, v = some (.int y) ∧ gs h1 m = some (9, 17) ∧ Ex ω M9_total 0 [some (.ref m), some (.int (xs (i + 1)))] [] h1 0 0 (fun v2 h2 => v2 = some (.int y) ∧ P h2))) (fin : ∀ h2, P h2 → EL ω b0 Ln xs 811 [some (.ref b0), some (.ref B), some (.ref m), some (.int (nI i))] [] h2 330 7757) : EL ω b0 Ln xs 692 [some (.ref b0), some (.ref B), some (.ref m), some (.int (nI i))] [] h 330 7757 := by
  refine e_aload1 693 dL_law_692 rfl ?_
  refine e_arg 1 698 dL_law_693 dL_law_694 dL_law_695 dL_law_696 dL_law_697 rfl rfl (by omega) hl ?_
  refine e_callV 701 B [.int (xs (i + 1))] [] dL_law_698 rfl lk_8_total ⟨wd814, wd815, wd816⟩ ⟨by decide, by decide⟩ (recvO cf8 (fun _ => s8)) rfl rfl (Nat.le_of_ble_eq_true rfl) (Nat.le_of_ble_eq_true rfl) (by decide) (by decide) ?_
  refine sem.mono (fun v h1 ⟨y, hy, s9, q1⟩ => ?_)
  subst hy
  refine e_aload2 702 dL_law_701 rfl ?_
  refine e_arg 1 707 dL_law_702 dL_law_703 dL_law_704 dL_law_705 dL_law_706 rfl rfl (by omega) hl ?_
  refine e_callV 710 m [.int (xs (i + 1))] [.int y] dL_law_707 rfl lk_9_total ⟨wd822, wd823, wd824⟩ ⟨by decide, by decide⟩ (recvO cf9 (fun _ => s9)) rfl rfl (Nat.le_of_ble_eq_true rfl) (Nat.le_of_ble_eq_true rfl) (by decide) (by decide) ?_
  refine q1.mono (fun v2 h2 ⟨hy, q2⟩ => ?_)
  subst hy
  exact e_icmp_eq 713 811 dL_law_710 rfl (by decide) (fun _ => fin h2 q2) (fun c => absurd rfl c)
theorem lc_weight (hl : Ln ≤ 3072) (hi : i + 5 < Ln) (s8 : gs h B = some (8, 8)) (sem : Ex ω M8_weight 0 [some (.ref B)] [] h 0 0 (fun v h1 => ∃ y : Int64, v = some (.long y) ∧ gs h1 m = some (9, 17) ∧ Ex ω M9_weight 0 [some (.ref m)] [] h1 0 0 (fun v2 h2 => v2 = some (.long y) ∧ P h2))) (fin : ∀ h2, P h2 → EL ω b0 Ln xs 811 [some (.ref b0), some (.ref B), some (.ref m), some (.int (nI i))] [] h2 330 7757) : EL ω b0 Ln xs 715 [some (.ref b0), some (.ref B), some (.ref m), some (.int (nI i))] [] h 330 7757 := by
  refine e_aload1 716 dL_law_715 rfl ?_
  refine e_callV 719 B [] [] dL_law_716 rfl lk_8_weight ⟨wd826, wd827, wd828⟩ ⟨by decide, by decide⟩ (recvO cf8 (fun _ => s8)) rfl rfl (Nat.le_of_ble_eq_true rfl) (Nat.le_of_ble_eq_true rfl) (by decide) (by decide) ?_
  refine sem.mono (fun v h1 ⟨y, hy, s9, q1⟩ => ?_)
  subst hy
  refine e_aload2 720 dL_law_719 rfl ?_
  refine e_callV 723 m [] [.long y] dL_law_720 rfl lk_9_weight ⟨wd831, wd832, wd833⟩ ⟨by decide, by decide⟩ (recvO cf9 (fun _ => s9)) rfl rfl (Nat.le_of_ble_eq_true rfl) (Nat.le_of_ble_eq_true rfl) (by decide) (by decide) ?_
  refine q1.mono (fun v2 h2 ⟨hy, q2⟩ => ?_)
  subst hy
  refine e_lcmp 724 dL_law_723 rfl ?_
  exact e_if_eq 727 811 dL_law_724 rfl (by decide) (fun _ => fin h2 q2) (fun c => absurd (by unfold lg_cmp; simp) c)
theorem lc_planned (hl : Ln ≤ 3072) (hi : i + 5 < Ln) (s8 : gs h B = some (8, 8)) (sem : Ex ω M8_planned 0 [some (.ref B), some (.int (xs (i + 1)))] [] h 0 0 (fun v h1 => ∃ y : Int32, v = some (.int y) ∧ gs h1 m = some (9, 17) ∧ Ex ω M9_planned 0 [some (.ref m), some (.int (xs (i + 1))), none, none] [] h1 0 0 (fun v2 h2 => v2 = some (.int y) ∧ P h2))) (fin : ∀ h2, P h2 → EL ω b0 Ln xs 811 [some (.ref b0), some (.ref B), some (.ref m), some (.int (nI i))] [] h2 330 7757) : EL ω b0 Ln xs 729 [some (.ref b0), some (.ref B), some (.ref m), some (.int (nI i))] [] h 330 7757 := by
  refine e_aload1 730 dL_law_729 rfl ?_
  refine e_arg 1 735 dL_law_730 dL_law_731 dL_law_732 dL_law_733 dL_law_734 rfl rfl (by omega) hl ?_
  refine e_callV 738 B [.int (xs (i + 1))] [] dL_law_735 rfl lk_8_planned ⟨wd836, wd837, wd838⟩ ⟨by decide, by decide⟩ (recvO cf8 (fun _ => s8)) rfl rfl (Nat.le_of_ble_eq_true rfl) (Nat.le_of_ble_eq_true rfl) (by decide) (by decide) ?_
  refine sem.mono (fun v h1 ⟨y, hy, s9, q1⟩ => ?_)
  subst hy
  refine e_aload2 739 dL_law_738 rfl ?_
  refine e_arg 1 744 dL_law_739 dL_law_740 dL_law_741 dL_law_742 dL_law_743 rfl rfl (by omega) hl ?_
  refine e_callV 747 m [.int (xs (i + 1))] [.int y] dL_law_744 rfl lk_9_planned ⟨wd852, wd853, wd854⟩ ⟨by decide, by decide⟩ (recvO cf9 (fun _ => s9)) rfl rfl (Nat.le_of_ble_eq_true rfl) (Nat.le_of_ble_eq_true rfl) (by decide) (by decide) ?_
  refine q1.mono (fun v2 h2 ⟨hy, q2⟩ => ?_)
  subst hy
  exact e_icmp_eq 750 811 dL_law_747 rfl (by decide) (fun _ => fin h2 q2) (fun c => absurd rfl c)
theorem lc_riseFor (hl : Ln ≤ 3072) (hi : i + 5 < Ln) (s8 : gs h B = some (8, 8)) (sem : Ex ω M8_riseFor 0 [some (.ref B), some (.int (xs (i + 1))), none] [] h 0 0 (fun v h1 => ∃ y : Int32, v = some (.int y) ∧ gs h1 m = some (9, 17) ∧ Ex ω M9_riseFor 0 [some (.ref m), some (.int (xs (i + 1))), none, none, none] [] h1 0 0 (fun v2 h2 => v2 = some (.int y) ∧ P h2))) (fin : ∀ h2, P h2 → EL ω b0 Ln xs 811 [some (.ref b0), some (.ref B), some (.ref m), some (.int (nI i))] [] h2 330 7757) : EL ω b0 Ln xs 752 [some (.ref b0), some (.ref B), some (.ref m), some (.int (nI i))] [] h 330 7757 := by
  refine e_aload1 753 dL_law_752 rfl ?_
  refine e_arg 1 758 dL_law_753 dL_law_754 dL_law_755 dL_law_756 dL_law_757 rfl rfl (by omega) hl ?_
  refine e_callV 761 B [.int (xs (i + 1))] [] dL_law_758 rfl lk_8_riseFor ⟨wd860, wd861, wd862⟩ ⟨by decide, by decide⟩ (recvO cf8 (fun _ => s8)) rfl rfl (Nat.le_of_ble_eq_true rfl) (Nat.le_of_ble_eq_true rfl) (by decide) (by decide) ?_
  refine sem.mono (fun v h1 ⟨y, hy, s9, q1⟩ => ?_)
  subst hy
  refine e_aload2 762 dL_law_761 rfl ?_
  refine e_arg 1 767 dL_law_762 dL_law_763 dL_law_764 dL_law_765 dL_law_766 rfl rfl (by omega) hl ?_
  refine e_callV 770 m [.int (xs (i + 1))] [.int y] dL_law_767 rfl lk_9_riseFor ⟨wd866, wd867, wd868⟩ ⟨by decide, by decide⟩ (recvO cf9 (fun _ => s9)) rfl rfl (Nat.le_of_ble_eq_true rfl) (Nat.le_of_ble_eq_true rfl) (by decide) (by decide) ?_
  refine q1.mono (fun v2 h2 ⟨hy, q2⟩ => ?_)
  subst hy
  exact e_icmp_eq 773 811 dL_law_770 rfl (by decide) (fun _ => fin h2 q2) (fun c => absurd rfl c)
theorem lc_tensionFor (hl : Ln ≤ 3072) (hi : i + 5 < Ln) (s8 : gs h B = some (8, 8)) (sem : Ex ω M8_tensionFor 0 [some (.ref B), some (.int (xs (i + 1)))] [] h 0 0 (fun v h1 => ∃ y : Int32, v = some (.int y) ∧ gs h1 m = some (9, 17) ∧ Ex ω M9_tensionFor 0 [some (.ref m), some (.int (xs (i + 1))), none] [] h1 0 0 (fun v2 h2 => v2 = some (.int y) ∧ P h2))) (fin : ∀ h2, P h2 → EL ω b0 Ln xs 811 [some (.ref b0), some (.ref B), some (.ref m), some (.int (nI i))] [] h2 330 7757) : EL ω b0 Ln xs 775 [some (.ref b0), some (.ref B), some (.ref m), some (.int (nI i))] [] h 330 7757 := by
  refine e_aload1 776 dL_law_775 rfl ?_
  refine e_arg 1 781 dL_law_776 dL_law_777 dL_law_778 dL_law_779 dL_law_780 rfl rfl (by omega) hl ?_
  refine e_callV 784 B [.int (xs (i + 1))] [] dL_law_781 rfl lk_8_tensionFor ⟨wd870, wd871, wd872⟩ ⟨by decide, by decide⟩ (recvO cf8 (fun _ => s8)) rfl rfl (Nat.le_of_ble_eq_true rfl) (Nat.le_of_ble_eq_true rfl) (by decide) (by decide) ?_
  refine sem.mono (fun v h1 ⟨y, hy, s9, q1⟩ => ?_)
  subst hy
  refine e_aload2 785 dL_law_784 rfl ?_
  refine e_arg 1 790 dL_law_785 dL_law_786 dL_law_787 dL_law_788 dL_law_789 rfl rfl (by omega) hl ?_
  refine e_callV 793 m [.int (xs (i + 1))] [.int y] dL_law_790 rfl lk_9_tensionFor ⟨wd876, wd877, wd878⟩ ⟨by decide, by decide⟩ (recvO cf9 (fun _ => s9)) rfl rfl (Nat.le_of_ble_eq_true rfl) (Nat.le_of_ble_eq_true rfl) (by decide) (by decide) ?_
  refine q1.mono (fun v2 h2 ⟨hy, q2⟩ => ?_)
  subst hy
  exact e_icmp_eq 796 811 dL_law_793 rfl (by decide) (fun _ => fin h2 q2) (fun c => absurd rfl c)
theorem lc_supply (hl : Ln ≤ 3072) (hi : i + 5 < Ln) (s8 : gs h B = some (8, 8)) (sem : Ex ω M8_supply 0 [some (.ref B), none, none] [] h 0 0 (fun v h1 => ∃ y : Int32, v = some (.int y) ∧ gs h1 m = some (9, 17) ∧ Ex ω M9_supply 0 [some (.ref m), none, none] [] h1 0 0 (fun v2 h2 => v2 = some (.int y) ∧ P h2))) (fin : ∀ h2, P h2 → EL ω b0 Ln xs 811 [some (.ref b0), some (.ref B), some (.ref m), some (.int (nI i))] [] h2 330 7757) : EL ω b0 Ln xs 798 [some (.ref b0), some (.ref B), some (.ref m), some (.int (nI i))] [] h 330 7757 := by
  refine e_aload1 799 dL_law_798 rfl ?_
  refine e_callV 802 B [] [] dL_law_799 rfl lk_8_supply ⟨wd880, wd881, wd882⟩ ⟨by decide, by decide⟩ (recvO cf8 (fun _ => s8)) rfl rfl (Nat.le_of_ble_eq_true rfl) (Nat.le_of_ble_eq_true rfl) (by decide) (by decide) ?_
  refine sem.mono (fun v h1 ⟨y, hy, s9, q1⟩ => ?_)
  subst hy
  refine e_aload2 803 dL_law_802 rfl ?_
  refine e_callV 806 m [] [.int y] dL_law_803 rfl lk_9_supply ⟨wd884, wd885, wd886⟩ ⟨by decide, by decide⟩ (recvO cf9 (fun _ => s9)) rfl rfl (Nat.le_of_ble_eq_true rfl) (Nat.le_of_ble_eq_true rfl) (by decide) (by decide) ?_
  refine q1.mono (fun v2 h2 ⟨hy, q2⟩ => ?_)
  subst hy
  exact e_icmp_eq 809 811 dL_law_806 rfl (by decide) (fun _ => fin h2 q2) (fun c => absurd rfl c)
end LC
