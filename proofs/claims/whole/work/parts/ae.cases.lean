/-! the law's calls, one by one -/
set_option maxHeartbeats 4000000 in
theorem case_0 {κ : Kx Unit} {b L : Nat} {xs : Nat → Int32} (C : Cx κ cL_law RL 4 400 20000 []) (X : Sx κ b L xs) {x3 : Int32} (v1 : vp_in (x3 + 1) L) (v2 : vp_in (x3 + 2) L) (v3 : vp_in (x3 + 3) L) (v4 : vp_in (x3 + 4) L) (v5 : vp_in (x3 + 5) L) {h : CH} (hI : Iv h) (k : ∀ h2, Iv h2 → Imp κ 1479 [(0, .ref b), (1, .ref (kad κ 0)), (2, .ref (kad κ 151)), (3, .int x3)] [] h2 (some ())) : Imp κ 180 [(0, .ref b), (1, .ref (kad κ 0)), (2, .ref (kad κ 151)), (3, .int x3)] [] h (some ()) := by
  obtain ⟨v, h1, h2, e1, e2, e3⟩ := op_feed hI (xs (x3 + 1).toNatClampNeg) (xs (x3 + 2).toNatClampNeg) (xs (x3 + 3).toNatClampNeg) (xs (x3 + 4).toNatClampNeg) (xs (x3 + 5).toNatClampNeg)
  refine r_aload_n C 181 1 rfl dL_law_180 rfl ?_
  refine r_aload_n C 182 0 rfl dL_law_181 rfl ?_
  refine r_iload_n C 183 3 rfl dL_law_182 rfl ?_
  refine r_iconst C 184 (1) (by decide) dL_law_183 rfl ?_
  refine r_iadd C 185 dL_law_184 rfl ?_
  refine l_sld C X 186 v1 dL_law_185 rfl ?_
  refine r_aload_n C 187 0 rfl dL_law_186 rfl ?_
  refine r_iload_n C 188 3 rfl dL_law_187 rfl ?_
  refine r_iconst C 189 (2) (by decide) dL_law_188 rfl ?_
  refine r_iadd C 190 dL_law_189 rfl ?_
  refine l_sld C X 191 v2 dL_law_190 rfl ?_
  refine r_aload_n C 192 0 rfl dL_law_191 rfl ?_
  refine r_iload_n C 193 3 rfl dL_law_192 rfl ?_
  refine r_iconst C 194 (3) (by decide) dL_law_193 rfl ?_
  refine r_iadd C 195 dL_law_194 rfl ?_
  refine l_sld C X 196 v3 dL_law_195 rfl ?_
  refine r_aload_n C 197 0 rfl dL_law_196 rfl ?_
  refine r_iload_n C 198 3 rfl dL_law_197 rfl ?_
  refine r_iconst C 199 (4) (by decide) dL_law_198 rfl ?_
  refine r_iadd C 200 dL_law_199 rfl ?_
  refine l_sld C X 201 v4 dL_law_200 rfl ?_
  refine r_aload_n C 202 0 rfl dL_law_201 rfl ?_
  refine r_iload_n C 203 3 rfl dL_law_202 rfl ?_
  refine r_iconst C 204 (5) (by decide) dL_law_203 rfl ?_
  refine r_iadd C 205 dL_law_204 rfl ?_
  refine l_sld C X 206 v5 dL_law_205 rfl ?_
  refine l_callI C 209 [] e1 (ok_f_X11_feed (xs (x3 + 1).toNatClampNeg) (xs (x3 + 2).toNatClampNeg) (xs (x3 + 3).toNatClampNeg) (xs (x3 + 4).toNatClampNeg) (xs (x3 + 5).toNatClampNeg) _) dL_law_206 lvL_13 kt_0 rfl rfl (Nat.le_of_ble_eq_true rfl) (Nat.le_of_ble_eq_true rfl) rfl rfl (Nat.le_of_ble_eq_true rfl) rfl rfl ?_
  refine r_aload_n C 210 2 rfl dL_law_209 rfl ?_
  refine r_aload_n C 211 0 rfl dL_law_210 rfl ?_
  refine r_iload_n C 212 3 rfl dL_law_211 rfl ?_
  refine r_iconst C 213 (1) (by decide) dL_law_212 rfl ?_
  refine r_iadd C 214 dL_law_213 rfl ?_
  refine l_sld C X 215 v1 dL_law_214 rfl ?_
  refine r_aload_n C 216 0 rfl dL_law_215 rfl ?_
  refine r_iload_n C 217 3 rfl dL_law_216 rfl ?_
  refine r_iconst C 218 (2) (by decide) dL_law_217 rfl ?_
  refine r_iadd C 219 dL_law_218 rfl ?_
  refine l_sld C X 220 v2 dL_law_219 rfl ?_
  refine r_aload_n C 221 0 rfl dL_law_220 rfl ?_
  refine r_iload_n C 222 3 rfl dL_law_221 rfl ?_
  refine r_iconst C 223 (3) (by decide) dL_law_222 rfl ?_
  refine r_iadd C 224 dL_law_223 rfl ?_
  refine l_sld C X 225 v3 dL_law_224 rfl ?_
  refine r_aload_n C 226 0 rfl dL_law_225 rfl ?_
  refine r_iload_n C 227 3 rfl dL_law_226 rfl ?_
  refine r_iconst C 228 (4) (by decide) dL_law_227 rfl ?_
  refine r_iadd C 229 dL_law_228 rfl ?_
  refine l_sld C X 230 v4 dL_law_229 rfl ?_
  refine r_aload_n C 231 0 rfl dL_law_230 rfl ?_
  refine r_iload_n C 232 3 rfl dL_law_231 rfl ?_
  refine r_iconst C 233 (5) (by decide) dL_law_232 rfl ?_
  refine r_iadd C 234 dL_law_233 rfl ?_
  refine l_sld C X 235 v5 dL_law_234 rfl ?_
  refine l_callI C 238 [.int v] e2 (ok_f_X12_feed (xs (x3 + 1).toNatClampNeg) (xs (x3 + 2).toNatClampNeg) (xs (x3 + 3).toNatClampNeg) (xs (x3 + 4).toNatClampNeg) (xs (x3 + 5).toNatClampNeg) _) dL_law_235 lvL_17 kt_151 rfl rfl (Nat.le_of_ble_eq_true rfl) (Nat.le_of_ble_eq_true rfl) rfl rfl (Nat.le_of_ble_eq_true rfl) rfl rfl ?_
  refine l_eq C 1479 dL_law_238 (by decide) ?_
  exact k h2 e3
set_option maxHeartbeats 4000000 in
theorem case_1 {κ : Kx Unit} {b L : Nat} {xs : Nat → Int32} (C : Cx κ cL_law RL 4 400 20000 []) (X : Sx κ b L xs) {x3 : Int32} (v1 : vp_in (x3 + 1) L) (v2 : vp_in (x3 + 2) L) (v3 : vp_in (x3 + 3) L) (v4 : vp_in (x3 + 4) L) (v5 : vp_in (x3 + 5) L) {h : CH} (hI : Iv h) (k : ∀ h2, Iv h2 → Imp κ 1479 [(0, .ref b), (1, .ref (kad κ 0)), (2, .ref (kad κ 151)), (3, .int x3)] [] h2 (some ())) : Imp κ 243 [(0, .ref b), (1, .ref (kad κ 0)), (2, .ref (kad κ 151)), (3, .int x3)] [] h (some ()) := by
  obtain ⟨v, h1, h2, e1, e2, e3⟩ := op_end hI (xs (x3 + 1).toNatClampNeg)
  refine r_aload_n C 244 1 rfl dL_law_243 rfl ?_
  refine r_aload_n C 245 0 rfl dL_law_244 rfl ?_
  refine r_iload_n C 246 3 rfl dL_law_245 rfl ?_
  refine r_iconst C 247 (1) (by decide) dL_law_246 rfl ?_
  refine r_iadd C 248 dL_law_247 rfl ?_
  refine l_sld C X 249 v1 dL_law_248 rfl ?_
  refine l_callI C 252 [] e1 (ok_f_X11_end (xs (x3 + 1).toNatClampNeg) _) dL_law_249 lvL_18 kt_0 rfl rfl (Nat.le_of_ble_eq_true rfl) (Nat.le_of_ble_eq_true rfl) rfl rfl (Nat.le_of_ble_eq_true rfl) rfl rfl ?_
  refine r_aload_n C 253 2 rfl dL_law_252 rfl ?_
  refine r_aload_n C 254 0 rfl dL_law_253 rfl ?_
  refine r_iload_n C 255 3 rfl dL_law_254 rfl ?_
  refine r_iconst C 256 (1) (by decide) dL_law_255 rfl ?_
  refine r_iadd C 257 dL_law_256 rfl ?_
  refine l_sld C X 258 v1 dL_law_257 rfl ?_
  refine l_callI C 261 [.int v] e2 (ok_f_X12_end (xs (x3 + 1).toNatClampNeg) _) dL_law_258 lvL_22 kt_151 rfl rfl (Nat.le_of_ble_eq_true rfl) (Nat.le_of_ble_eq_true rfl) rfl rfl (Nat.le_of_ble_eq_true rfl) rfl rfl ?_
  refine l_eq C 1479 dL_law_261 (by decide) ?_
  exact k h2 e3
-- town: apart
-- rules: apart
set_option maxHeartbeats 4000000 in
theorem case_4 {κ : Kx Unit} {b L : Nat} {xs : Nat → Int32} (C : Cx κ cL_law RL 4 400 20000 []) (X : Sx κ b L xs) {x3 : Int32} (v1 : vp_in (x3 + 1) L) (v2 : vp_in (x3 + 2) L) (v3 : vp_in (x3 + 3) L) (v4 : vp_in (x3 + 4) L) (v5 : vp_in (x3 + 5) L) {h : CH} (hI : Iv h) (k : ∀ h2, Iv h2 → Imp κ 1479 [(0, .ref b), (1, .ref (kad κ 0)), (2, .ref (kad κ 151)), (3, .int x3)] [] h2 (some ())) : Imp κ 292 [(0, .ref b), (1, .ref (kad κ 0)), (2, .ref (kad κ 151)), (3, .int x3)] [] h (some ()) := by
  obtain ⟨v, e1, e2⟩ := op_fault hI (xs (x3 + 1).toNatClampNeg)
  refine r_aload_n C 293 1 rfl dL_law_292 rfl ?_
  refine r_aload_n C 294 0 rfl dL_law_293 rfl ?_
  refine r_iload_n C 295 3 rfl dL_law_294 rfl ?_
  refine r_iconst C 296 (1) (by decide) dL_law_295 rfl ?_
  refine r_iadd C 297 dL_law_296 rfl ?_
  refine l_sld C X 298 v1 dL_law_297 rfl ?_
  refine l_callP C 301 [] e1 (ok_f_X11_fault (xs (x3 + 1).toNatClampNeg) _) dL_law_298 lvL_32 kt_0 rfl rfl (Nat.le_of_ble_eq_true rfl) (Nat.le_of_ble_eq_true rfl) rfl rfl (Nat.le_of_ble_eq_true rfl) rfl rfl ?_
  refine r_aload_n C 302 2 rfl dL_law_301 rfl ?_
  refine r_aload_n C 303 0 rfl dL_law_302 rfl ?_
  refine r_iload_n C 304 3 rfl dL_law_303 rfl ?_
  refine r_iconst C 305 (1) (by decide) dL_law_304 rfl ?_
  refine r_iadd C 306 dL_law_305 rfl ?_
  refine l_sld C X 307 v1 dL_law_306 rfl ?_
  refine l_callP C 310 [.int v] e2 (ok_f_X12_fault (xs (x3 + 1).toNatClampNeg) _) dL_law_307 lvL_35 kt_151 rfl rfl (Nat.le_of_ble_eq_true rfl) (Nat.le_of_ble_eq_true rfl) rfl rfl (Nat.le_of_ble_eq_true rfl) rfl rfl ?_
  refine l_eq C 1479 dL_law_310 (by decide) ?_
  exact k _ hI
set_option maxHeartbeats 4000000 in
theorem case_5 {κ : Kx Unit} {b L : Nat} {xs : Nat → Int32} (C : Cx κ cL_law RL 4 400 20000 []) (X : Sx κ b L xs) {x3 : Int32} (v1 : vp_in (x3 + 1) L) (v2 : vp_in (x3 + 2) L) (v3 : vp_in (x3 + 3) L) (v4 : vp_in (x3 + 4) L) (v5 : vp_in (x3 + 5) L) {h : CH} (hI : Iv h) (k : ∀ h2, Iv h2 → Imp κ 1479 [(0, .ref b), (1, .ref (kad κ 0)), (2, .ref (kad κ 151)), (3, .int x3)] [] h2 (some ())) : Imp κ 315 [(0, .ref b), (1, .ref (kad κ 0)), (2, .ref (kad κ 151)), (3, .int x3)] [] h (some ()) := by
  obtain ⟨v, e1, e2⟩ := op_face hI (xs (x3 + 1).toNatClampNeg) (xs (x3 + 2).toNatClampNeg) (xs (x3 + 3).toNatClampNeg)
  refine r_aload_n C 316 1 rfl dL_law_315 rfl ?_
  refine r_aload_n C 317 0 rfl dL_law_316 rfl ?_
  refine r_iload_n C 318 3 rfl dL_law_317 rfl ?_
  refine r_iconst C 319 (1) (by decide) dL_law_318 rfl ?_
  refine r_iadd C 320 dL_law_319 rfl ?_
  refine l_sld C X 321 v1 dL_law_320 rfl ?_
  refine r_aload_n C 322 0 rfl dL_law_321 rfl ?_
  refine r_iload_n C 323 3 rfl dL_law_322 rfl ?_
  refine r_iconst C 324 (2) (by decide) dL_law_323 rfl ?_
  refine r_iadd C 325 dL_law_324 rfl ?_
  refine l_sld C X 326 v2 dL_law_325 rfl ?_
  refine r_aload_n C 327 0 rfl dL_law_326 rfl ?_
  refine r_iload_n C 328 3 rfl dL_law_327 rfl ?_
  refine r_iconst C 329 (3) (by decide) dL_law_328 rfl ?_
  refine r_iadd C 330 dL_law_329 rfl ?_
  refine l_sld C X 331 v3 dL_law_330 rfl ?_
  refine l_callP C 334 [] e1 (ok_f_X11_face (xs (x3 + 1).toNatClampNeg) (xs (x3 + 2).toNatClampNeg) (xs (x3 + 3).toNatClampNeg) _) dL_law_331 lvL_36 kt_0 rfl rfl (Nat.le_of_ble_eq_true rfl) (Nat.le_of_ble_eq_true rfl) rfl rfl (Nat.le_of_ble_eq_true rfl) rfl rfl ?_
  refine r_aload_n C 335 2 rfl dL_law_334 rfl ?_
  refine r_aload_n C 336 0 rfl dL_law_335 rfl ?_
  refine r_iload_n C 337 3 rfl dL_law_336 rfl ?_
  refine r_iconst C 338 (1) (by decide) dL_law_337 rfl ?_
  refine r_iadd C 339 dL_law_338 rfl ?_
  refine l_sld C X 340 v1 dL_law_339 rfl ?_
  refine r_aload_n C 341 0 rfl dL_law_340 rfl ?_
  refine r_iload_n C 342 3 rfl dL_law_341 rfl ?_
  refine r_iconst C 343 (2) (by decide) dL_law_342 rfl ?_
  refine r_iadd C 344 dL_law_343 rfl ?_
  refine l_sld C X 345 v2 dL_law_344 rfl ?_
  refine r_aload_n C 346 0 rfl dL_law_345 rfl ?_
  refine r_iload_n C 347 3 rfl dL_law_346 rfl ?_
  refine r_iconst C 348 (3) (by decide) dL_law_347 rfl ?_
  refine r_iadd C 349 dL_law_348 rfl ?_
  refine l_sld C X 350 v3 dL_law_349 rfl ?_
  refine l_callP C 353 [.int v] e2 (ok_f_X12_face (xs (x3 + 1).toNatClampNeg) (xs (x3 + 2).toNatClampNeg) (xs (x3 + 3).toNatClampNeg) _) dL_law_350 lvL_40 kt_151 rfl rfl (Nat.le_of_ble_eq_true rfl) (Nat.le_of_ble_eq_true rfl) rfl rfl (Nat.le_of_ble_eq_true rfl) rfl rfl ?_
  refine l_eq C 1479 dL_law_353 (by decide) ?_
  exact k _ hI
set_option maxHeartbeats 4000000 in
theorem case_6 {κ : Kx Unit} {b L : Nat} {xs : Nat → Int32} (C : Cx κ cL_law RL 4 400 20000 []) (X : Sx κ b L xs) {x3 : Int32} (v1 : vp_in (x3 + 1) L) (v2 : vp_in (x3 + 2) L) (v3 : vp_in (x3 + 3) L) (v4 : vp_in (x3 + 4) L) (v5 : vp_in (x3 + 5) L) {h : CH} (hI : Iv h) (k : ∀ h2, Iv h2 → Imp κ 1479 [(0, .ref b), (1, .ref (kad κ 0)), (2, .ref (kad κ 151)), (3, .int x3)] [] h2 (some ())) : Imp κ 358 [(0, .ref b), (1, .ref (kad κ 0)), (2, .ref (kad κ 151)), (3, .int x3)] [] h (some ()) := by
  obtain ⟨v, e1, e2⟩ := op_far hI (xs (x3 + 1).toNatClampNeg) (xs (x3 + 2).toNatClampNeg) (xs (x3 + 3).toNatClampNeg) (xs (x3 + 4).toNatClampNeg)
  refine r_aload_n C 359 1 rfl dL_law_358 rfl ?_
  refine r_aload_n C 360 0 rfl dL_law_359 rfl ?_
  refine r_iload_n C 361 3 rfl dL_law_360 rfl ?_
  refine r_iconst C 362 (1) (by decide) dL_law_361 rfl ?_
  refine r_iadd C 363 dL_law_362 rfl ?_
  refine l_sld C X 364 v1 dL_law_363 rfl ?_
  refine r_aload_n C 365 0 rfl dL_law_364 rfl ?_
  refine r_iload_n C 366 3 rfl dL_law_365 rfl ?_
  refine r_iconst C 367 (2) (by decide) dL_law_366 rfl ?_
  refine r_iadd C 368 dL_law_367 rfl ?_
  refine l_sld C X 369 v2 dL_law_368 rfl ?_
  refine r_aload_n C 370 0 rfl dL_law_369 rfl ?_
  refine r_iload_n C 371 3 rfl dL_law_370 rfl ?_
  refine r_iconst C 372 (3) (by decide) dL_law_371 rfl ?_
  refine r_iadd C 373 dL_law_372 rfl ?_
  refine l_sld C X 374 v3 dL_law_373 rfl ?_
  refine r_aload_n C 375 0 rfl dL_law_374 rfl ?_
  refine r_iload_n C 376 3 rfl dL_law_375 rfl ?_
  refine r_iconst C 377 (4) (by decide) dL_law_376 rfl ?_
  refine r_iadd C 378 dL_law_377 rfl ?_
  refine l_sld C X 379 v4 dL_law_378 rfl ?_
  refine l_callP C 382 [] e1 (ok_f_X11_far (xs (x3 + 1).toNatClampNeg) (xs (x3 + 2).toNatClampNeg) (xs (x3 + 3).toNatClampNeg) (xs (x3 + 4).toNatClampNeg) _) dL_law_379 lvL_41 kt_0 rfl rfl (Nat.le_of_ble_eq_true rfl) (Nat.le_of_ble_eq_true rfl) rfl rfl (Nat.le_of_ble_eq_true rfl) rfl rfl ?_
  refine r_aload_n C 383 2 rfl dL_law_382 rfl ?_
  refine r_aload_n C 384 0 rfl dL_law_383 rfl ?_
  refine r_iload_n C 385 3 rfl dL_law_384 rfl ?_
  refine r_iconst C 386 (1) (by decide) dL_law_385 rfl ?_
  refine r_iadd C 387 dL_law_386 rfl ?_
  refine l_sld C X 388 v1 dL_law_387 rfl ?_
  refine r_aload_n C 389 0 rfl dL_law_388 rfl ?_
  refine r_iload_n C 390 3 rfl dL_law_389 rfl ?_
  refine r_iconst C 391 (2) (by decide) dL_law_390 rfl ?_
  refine r_iadd C 392 dL_law_391 rfl ?_
  refine l_sld C X 393 v2 dL_law_392 rfl ?_
  refine r_aload_n C 394 0 rfl dL_law_393 rfl ?_
  refine r_iload_n C 395 3 rfl dL_law_394 rfl ?_
  refine r_iconst C 396 (3) (by decide) dL_law_395 rfl ?_
  refine r_iadd C 397 dL_law_396 rfl ?_
  refine l_sld C X 398 v3 dL_law_397 rfl ?_
  refine r_aload_n C 399 0 rfl dL_law_398 rfl ?_
  refine r_iload_n C 400 3 rfl dL_law_399 rfl ?_
  refine r_iconst C 401 (4) (by decide) dL_law_400 rfl ?_
  refine r_iadd C 402 dL_law_401 rfl ?_
  refine l_sld C X 403 v4 dL_law_402 rfl ?_
  refine l_callP C 406 [.int v] e2 (ok_f_X12_far (xs (x3 + 1).toNatClampNeg) (xs (x3 + 2).toNatClampNeg) (xs (x3 + 3).toNatClampNeg) (xs (x3 + 4).toNatClampNeg) _) dL_law_403 lvL_45 kt_151 rfl rfl (Nat.le_of_ble_eq_true rfl) (Nat.le_of_ble_eq_true rfl) rfl rfl (Nat.le_of_ble_eq_true rfl) rfl rfl ?_
  refine l_eq C 1479 dL_law_406 (by decide) ?_
  exact k _ hI
set_option maxHeartbeats 4000000 in
theorem case_7 {κ : Kx Unit} {b L : Nat} {xs : Nat → Int32} (C : Cx κ cL_law RL 4 400 20000 []) (X : Sx κ b L xs) {x3 : Int32} (v1 : vp_in (x3 + 1) L) (v2 : vp_in (x3 + 2) L) (v3 : vp_in (x3 + 3) L) (v4 : vp_in (x3 + 4) L) (v5 : vp_in (x3 + 5) L) {h : CH} (hI : Iv h) (k : ∀ h2, Iv h2 → Imp κ 1479 [(0, .ref b), (1, .ref (kad κ 0)), (2, .ref (kad κ 151)), (3, .int x3)] [] h2 (some ())) : Imp κ 411 [(0, .ref b), (1, .ref (kad κ 0)), (2, .ref (kad κ 151)), (3, .int x3)] [] h (some ()) := by
  obtain ⟨v, h1, h2, e1, e2, e3⟩ := op_passes hI (xs (x3 + 1).toNatClampNeg) (xs (x3 + 2).toNatClampNeg) (xs (x3 + 3).toNatClampNeg) (xs (x3 + 4).toNatClampNeg)
  refine r_aload_n C 412 1 rfl dL_law_411 rfl ?_
  refine r_aload_n C 413 0 rfl dL_law_412 rfl ?_
  refine r_iload_n C 414 3 rfl dL_law_413 rfl ?_
  refine r_iconst C 415 (1) (by decide) dL_law_414 rfl ?_
  refine r_iadd C 416 dL_law_415 rfl ?_
  refine l_sld C X 417 v1 dL_law_416 rfl ?_
  refine r_aload_n C 418 0 rfl dL_law_417 rfl ?_
  refine r_iload_n C 419 3 rfl dL_law_418 rfl ?_
  refine r_iconst C 420 (2) (by decide) dL_law_419 rfl ?_
  refine r_iadd C 421 dL_law_420 rfl ?_
  refine l_sld C X 422 v2 dL_law_421 rfl ?_
  refine r_aload_n C 423 0 rfl dL_law_422 rfl ?_
  refine r_iload_n C 424 3 rfl dL_law_423 rfl ?_
  refine r_iconst C 425 (3) (by decide) dL_law_424 rfl ?_
  refine r_iadd C 426 dL_law_425 rfl ?_
  refine l_sld C X 427 v3 dL_law_426 rfl ?_
  refine r_aload_n C 428 0 rfl dL_law_427 rfl ?_
  refine r_iload_n C 429 3 rfl dL_law_428 rfl ?_
  refine r_iconst C 430 (4) (by decide) dL_law_429 rfl ?_
  refine r_iadd C 431 dL_law_430 rfl ?_
  refine l_sld C X 432 v4 dL_law_431 rfl ?_
  refine l_callI C 435 [] e1 (ok_f_X11_passes (xs (x3 + 1).toNatClampNeg) (xs (x3 + 2).toNatClampNeg) (xs (x3 + 3).toNatClampNeg) (xs (x3 + 4).toNatClampNeg) _) dL_law_432 lvL_46 kt_0 rfl rfl (Nat.le_of_ble_eq_true rfl) (Nat.le_of_ble_eq_true rfl) rfl rfl (Nat.le_of_ble_eq_true rfl) rfl rfl ?_
  refine r_aload_n C 436 2 rfl dL_law_435 rfl ?_
  refine r_aload_n C 437 0 rfl dL_law_436 rfl ?_
  refine r_iload_n C 438 3 rfl dL_law_437 rfl ?_
  refine r_iconst C 439 (1) (by decide) dL_law_438 rfl ?_
  refine r_iadd C 440 dL_law_439 rfl ?_
  refine l_sld C X 441 v1 dL_law_440 rfl ?_
  refine r_aload_n C 442 0 rfl dL_law_441 rfl ?_
  refine r_iload_n C 443 3 rfl dL_law_442 rfl ?_
  refine r_iconst C 444 (2) (by decide) dL_law_443 rfl ?_
  refine r_iadd C 445 dL_law_444 rfl ?_
  refine l_sld C X 446 v2 dL_law_445 rfl ?_
  refine r_aload_n C 447 0 rfl dL_law_446 rfl ?_
  refine r_iload_n C 448 3 rfl dL_law_447 rfl ?_
  refine r_iconst C 449 (3) (by decide) dL_law_448 rfl ?_
  refine r_iadd C 450 dL_law_449 rfl ?_
  refine l_sld C X 451 v3 dL_law_450 rfl ?_
  refine r_aload_n C 452 0 rfl dL_law_451 rfl ?_
  refine r_iload_n C 453 3 rfl dL_law_452 rfl ?_
  refine r_iconst C 454 (4) (by decide) dL_law_453 rfl ?_
  refine r_iadd C 455 dL_law_454 rfl ?_
  refine l_sld C X 456 v4 dL_law_455 rfl ?_
  refine l_callI C 459 [.int v] e2 (ok_f_X12_passes (xs (x3 + 1).toNatClampNeg) (xs (x3 + 2).toNatClampNeg) (xs (x3 + 3).toNatClampNeg) (xs (x3 + 4).toNatClampNeg) _) dL_law_456 lvL_49 kt_151 rfl rfl (Nat.le_of_ble_eq_true rfl) (Nat.le_of_ble_eq_true rfl) rfl rfl (Nat.le_of_ble_eq_true rfl) rfl rfl ?_
  refine l_eq C 1479 dL_law_459 (by decide) ?_
  exact k h2 e3
set_option maxHeartbeats 4000000 in
theorem case_8 {κ : Kx Unit} {b L : Nat} {xs : Nat → Int32} (C : Cx κ cL_law RL 4 400 20000 []) (X : Sx κ b L xs) {x3 : Int32} (v1 : vp_in (x3 + 1) L) (v2 : vp_in (x3 + 2) L) (v3 : vp_in (x3 + 3) L) (v4 : vp_in (x3 + 4) L) (v5 : vp_in (x3 + 5) L) {h : CH} (hI : Iv h) (k : ∀ h2, Iv h2 → Imp κ 1479 [(0, .ref b), (1, .ref (kad κ 0)), (2, .ref (kad κ 151)), (3, .int x3)] [] h2 (some ())) : Imp κ 464 [(0, .ref b), (1, .ref (kad κ 0)), (2, .ref (kad κ 151)), (3, .int x3)] [] h (some ()) := by
  obtain ⟨v, h1, h2, e1, e2, e3⟩ := op_mix hI (xs (x3 + 1).toNatClampNeg) (xs (x3 + 2).toNatClampNeg) (xs (x3 + 3).toNatClampNeg) (xs (x3 + 4).toNatClampNeg) (xs (x3 + 5).toNatClampNeg)
  refine r_aload_n C 465 1 rfl dL_law_464 rfl ?_
  refine r_aload_n C 466 0 rfl dL_law_465 rfl ?_
  refine r_iload_n C 467 3 rfl dL_law_466 rfl ?_
  refine r_iconst C 468 (1) (by decide) dL_law_467 rfl ?_
  refine r_iadd C 469 dL_law_468 rfl ?_
  refine l_sld C X 470 v1 dL_law_469 rfl ?_
  refine r_aload_n C 471 0 rfl dL_law_470 rfl ?_
  refine r_iload_n C 472 3 rfl dL_law_471 rfl ?_
  refine r_iconst C 473 (2) (by decide) dL_law_472 rfl ?_
  refine r_iadd C 474 dL_law_473 rfl ?_
  refine l_sld C X 475 v2 dL_law_474 rfl ?_
  refine r_aload_n C 476 0 rfl dL_law_475 rfl ?_
  refine r_iload_n C 477 3 rfl dL_law_476 rfl ?_
  refine r_iconst C 478 (3) (by decide) dL_law_477 rfl ?_
  refine r_iadd C 479 dL_law_478 rfl ?_
  refine l_sld C X 480 v3 dL_law_479 rfl ?_
  refine r_aload_n C 481 0 rfl dL_law_480 rfl ?_
  refine r_iload_n C 482 3 rfl dL_law_481 rfl ?_
  refine r_iconst C 483 (4) (by decide) dL_law_482 rfl ?_
  refine r_iadd C 484 dL_law_483 rfl ?_
  refine l_sld C X 485 v4 dL_law_484 rfl ?_
  refine r_aload_n C 486 0 rfl dL_law_485 rfl ?_
  refine r_iload_n C 487 3 rfl dL_law_486 rfl ?_
  refine r_iconst C 488 (5) (by decide) dL_law_487 rfl ?_
  refine r_iadd C 489 dL_law_488 rfl ?_
  refine l_sld C X 490 v5 dL_law_489 rfl ?_
  refine l_callI C 493 [] e1 (ok_f_X11_mix (xs (x3 + 1).toNatClampNeg) (xs (x3 + 2).toNatClampNeg) (xs (x3 + 3).toNatClampNeg) (xs (x3 + 4).toNatClampNeg) (xs (x3 + 5).toNatClampNeg) _) dL_law_490 lvL_50 kt_0 rfl rfl (Nat.le_of_ble_eq_true rfl) (Nat.le_of_ble_eq_true rfl) rfl rfl (Nat.le_of_ble_eq_true rfl) rfl rfl ?_
  refine r_aload_n C 494 2 rfl dL_law_493 rfl ?_
  refine r_aload_n C 495 0 rfl dL_law_494 rfl ?_
  refine r_iload_n C 496 3 rfl dL_law_495 rfl ?_
  refine r_iconst C 497 (1) (by decide) dL_law_496 rfl ?_
  refine r_iadd C 498 dL_law_497 rfl ?_
  refine l_sld C X 499 v1 dL_law_498 rfl ?_
  refine r_aload_n C 500 0 rfl dL_law_499 rfl ?_
  refine r_iload_n C 501 3 rfl dL_law_500 rfl ?_
  refine r_iconst C 502 (2) (by decide) dL_law_501 rfl ?_
  refine r_iadd C 503 dL_law_502 rfl ?_
  refine l_sld C X 504 v2 dL_law_503 rfl ?_
  refine r_aload_n C 505 0 rfl dL_law_504 rfl ?_
  refine r_iload_n C 506 3 rfl dL_law_505 rfl ?_
  refine r_iconst C 507 (3) (by decide) dL_law_506 rfl ?_
  refine r_iadd C 508 dL_law_507 rfl ?_
  refine l_sld C X 509 v3 dL_law_508 rfl ?_
  refine r_aload_n C 510 0 rfl dL_law_509 rfl ?_
  refine r_iload_n C 511 3 rfl dL_law_510 rfl ?_
  refine r_iconst C 512 (4) (by decide) dL_law_511 rfl ?_
  refine r_iadd C 513 dL_law_512 rfl ?_
  refine l_sld C X 514 v4 dL_law_513 rfl ?_
  refine r_aload_n C 515 0 rfl dL_law_514 rfl ?_
  refine r_iload_n C 516 3 rfl dL_law_515 rfl ?_
  refine r_iconst C 517 (5) (by decide) dL_law_516 rfl ?_
  refine r_iadd C 518 dL_law_517 rfl ?_
  refine l_sld C X 519 v5 dL_law_518 rfl ?_
  refine l_callI C 522 [.int v] e2 (ok_f_X12_mix (xs (x3 + 1).toNatClampNeg) (xs (x3 + 2).toNatClampNeg) (xs (x3 + 3).toNatClampNeg) (xs (x3 + 4).toNatClampNeg) (xs (x3 + 5).toNatClampNeg) _) dL_law_519 lvL_53 kt_151 rfl rfl (Nat.le_of_ble_eq_true rfl) (Nat.le_of_ble_eq_true rfl) rfl rfl (Nat.le_of_ble_eq_true rfl) rfl rfl ?_
  refine l_eq C 1479 dL_law_522 (by decide) ?_
  exact k h2 e3
set_option maxHeartbeats 4000000 in
theorem case_9 {κ : Kx Unit} {b L : Nat} {xs : Nat → Int32} (C : Cx κ cL_law RL 4 400 20000 []) (X : Sx κ b L xs) {x3 : Int32} (v1 : vp_in (x3 + 1) L) (v2 : vp_in (x3 + 2) L) (v3 : vp_in (x3 + 3) L) (v4 : vp_in (x3 + 4) L) (v5 : vp_in (x3 + 5) L) {h : CH} (hI : Iv h) (k : ∀ h2, Iv h2 → Imp κ 1479 [(0, .ref b), (1, .ref (kad κ 0)), (2, .ref (kad κ 151)), (3, .int x3)] [] h2 (some ())) : Imp κ 527 [(0, .ref b), (1, .ref (kad κ 0)), (2, .ref (kad κ 151)), (3, .int x3)] [] h (some ()) := by
  obtain ⟨v, h1, h2, e1, e2, e3⟩ := op_both hI (xs (x3 + 1).toNatClampNeg) (xs (x3 + 2).toNatClampNeg) (xs (x3 + 3).toNatClampNeg) (xs (x3 + 4).toNatClampNeg) (xs (x3 + 5).toNatClampNeg)
  refine r_aload_n C 528 1 rfl dL_law_527 rfl ?_
  refine r_aload_n C 529 0 rfl dL_law_528 rfl ?_
  refine r_iload_n C 530 3 rfl dL_law_529 rfl ?_
  refine r_iconst C 531 (1) (by decide) dL_law_530 rfl ?_
  refine r_iadd C 532 dL_law_531 rfl ?_
  refine l_sld C X 533 v1 dL_law_532 rfl ?_
  refine r_aload_n C 534 0 rfl dL_law_533 rfl ?_
  refine r_iload_n C 535 3 rfl dL_law_534 rfl ?_
  refine r_iconst C 536 (2) (by decide) dL_law_535 rfl ?_
  refine r_iadd C 537 dL_law_536 rfl ?_
  refine l_sld C X 538 v2 dL_law_537 rfl ?_
  refine r_aload_n C 539 0 rfl dL_law_538 rfl ?_
  refine r_iload_n C 540 3 rfl dL_law_539 rfl ?_
  refine r_iconst C 541 (3) (by decide) dL_law_540 rfl ?_
  refine r_iadd C 542 dL_law_541 rfl ?_
  refine l_sld C X 543 v3 dL_law_542 rfl ?_
  refine r_aload_n C 544 0 rfl dL_law_543 rfl ?_
  refine r_iload_n C 545 3 rfl dL_law_544 rfl ?_
  refine r_iconst C 546 (4) (by decide) dL_law_545 rfl ?_
  refine r_iadd C 547 dL_law_546 rfl ?_
  refine l_sld C X 548 v4 dL_law_547 rfl ?_
  refine r_aload_n C 549 0 rfl dL_law_548 rfl ?_
  refine r_iload_n C 550 3 rfl dL_law_549 rfl ?_
  refine r_iconst C 551 (5) (by decide) dL_law_550 rfl ?_
  refine r_iadd C 552 dL_law_551 rfl ?_
  refine l_sld C X 553 v5 dL_law_552 rfl ?_
  refine l_callI C 556 [] e1 (ok_f_X11_both (xs (x3 + 1).toNatClampNeg) (xs (x3 + 2).toNatClampNeg) (xs (x3 + 3).toNatClampNeg) (xs (x3 + 4).toNatClampNeg) (xs (x3 + 5).toNatClampNeg) _) dL_law_553 lvL_54 kt_0 rfl rfl (Nat.le_of_ble_eq_true rfl) (Nat.le_of_ble_eq_true rfl) rfl rfl (Nat.le_of_ble_eq_true rfl) rfl rfl ?_
  refine r_aload_n C 557 2 rfl dL_law_556 rfl ?_
  refine r_aload_n C 558 0 rfl dL_law_557 rfl ?_
  refine r_iload_n C 559 3 rfl dL_law_558 rfl ?_
  refine r_iconst C 560 (1) (by decide) dL_law_559 rfl ?_
  refine r_iadd C 561 dL_law_560 rfl ?_
  refine l_sld C X 562 v1 dL_law_561 rfl ?_
  refine r_aload_n C 563 0 rfl dL_law_562 rfl ?_
  refine r_iload_n C 564 3 rfl dL_law_563 rfl ?_
  refine r_iconst C 565 (2) (by decide) dL_law_564 rfl ?_
  refine r_iadd C 566 dL_law_565 rfl ?_
  refine l_sld C X 567 v2 dL_law_566 rfl ?_
  refine r_aload_n C 568 0 rfl dL_law_567 rfl ?_
  refine r_iload_n C 569 3 rfl dL_law_568 rfl ?_
  refine r_iconst C 570 (3) (by decide) dL_law_569 rfl ?_
  refine r_iadd C 571 dL_law_570 rfl ?_
  refine l_sld C X 572 v3 dL_law_571 rfl ?_
  refine r_aload_n C 573 0 rfl dL_law_572 rfl ?_
  refine r_iload_n C 574 3 rfl dL_law_573 rfl ?_
  refine r_iconst C 575 (4) (by decide) dL_law_574 rfl ?_
  refine r_iadd C 576 dL_law_575 rfl ?_
  refine l_sld C X 577 v4 dL_law_576 rfl ?_
  refine r_aload_n C 578 0 rfl dL_law_577 rfl ?_
  refine r_iload_n C 579 3 rfl dL_law_578 rfl ?_
  refine r_iconst C 580 (5) (by decide) dL_law_579 rfl ?_
  refine r_iadd C 581 dL_law_580 rfl ?_
  refine l_sld C X 582 v5 dL_law_581 rfl ?_
  refine l_callI C 585 [.int v] e2 (ok_f_X12_both (xs (x3 + 1).toNatClampNeg) (xs (x3 + 2).toNatClampNeg) (xs (x3 + 3).toNatClampNeg) (xs (x3 + 4).toNatClampNeg) (xs (x3 + 5).toNatClampNeg) _) dL_law_582 lvL_57 kt_151 rfl rfl (Nat.le_of_ble_eq_true rfl) (Nat.le_of_ble_eq_true rfl) rfl rfl (Nat.le_of_ble_eq_true rfl) rfl rfl ?_
  refine l_eq C 1479 dL_law_585 (by decide) ?_
  exact k h2 e3
set_option maxHeartbeats 4000000 in
theorem case_10 {κ : Kx Unit} {b L : Nat} {xs : Nat → Int32} (C : Cx κ cL_law RL 4 400 20000 []) (X : Sx κ b L xs) {x3 : Int32} (v1 : vp_in (x3 + 1) L) (v2 : vp_in (x3 + 2) L) (v3 : vp_in (x3 + 3) L) (v4 : vp_in (x3 + 4) L) (v5 : vp_in (x3 + 5) L) {h : CH} (hI : Iv h) (k : ∀ h2, Iv h2 → Imp κ 1479 [(0, .ref b), (1, .ref (kad κ 0)), (2, .ref (kad κ 151)), (3, .int x3)] [] h2 (some ())) : Imp κ 590 [(0, .ref b), (1, .ref (kad κ 0)), (2, .ref (kad κ 151)), (3, .int x3)] [] h (some ()) := by
  obtain ⟨v, h1, h2, e1, e2, e3⟩ := op_able hI (xs (x3 + 1).toNatClampNeg) (xs (x3 + 2).toNatClampNeg) (xs (x3 + 3).toNatClampNeg) (xs (x3 + 4).toNatClampNeg)
  refine r_aload_n C 591 1 rfl dL_law_590 rfl ?_
  refine r_aload_n C 592 0 rfl dL_law_591 rfl ?_
  refine r_iload_n C 593 3 rfl dL_law_592 rfl ?_
  refine r_iconst C 594 (1) (by decide) dL_law_593 rfl ?_
  refine r_iadd C 595 dL_law_594 rfl ?_
  refine l_sld C X 596 v1 dL_law_595 rfl ?_
  refine r_aload_n C 597 0 rfl dL_law_596 rfl ?_
  refine r_iload_n C 598 3 rfl dL_law_597 rfl ?_
  refine r_iconst C 599 (2) (by decide) dL_law_598 rfl ?_
  refine r_iadd C 600 dL_law_599 rfl ?_
  refine l_sld C X 601 v2 dL_law_600 rfl ?_
  refine r_aload_n C 602 0 rfl dL_law_601 rfl ?_
  refine r_iload_n C 603 3 rfl dL_law_602 rfl ?_
  refine r_iconst C 604 (3) (by decide) dL_law_603 rfl ?_
  refine r_iadd C 605 dL_law_604 rfl ?_
  refine l_sld C X 606 v3 dL_law_605 rfl ?_
  refine r_aload_n C 607 0 rfl dL_law_606 rfl ?_
  refine r_iload_n C 608 3 rfl dL_law_607 rfl ?_
  refine r_iconst C 609 (4) (by decide) dL_law_608 rfl ?_
  refine r_iadd C 610 dL_law_609 rfl ?_
  refine l_sld C X 611 v4 dL_law_610 rfl ?_
  refine l_callI C 614 [] e1 (ok_f_X11_able (xs (x3 + 1).toNatClampNeg) (xs (x3 + 2).toNatClampNeg) (xs (x3 + 3).toNatClampNeg) (xs (x3 + 4).toNatClampNeg) _) dL_law_611 lvL_58 kt_0 rfl rfl (Nat.le_of_ble_eq_true rfl) (Nat.le_of_ble_eq_true rfl) rfl rfl (Nat.le_of_ble_eq_true rfl) rfl rfl ?_
  refine r_aload_n C 615 2 rfl dL_law_614 rfl ?_
  refine r_aload_n C 616 0 rfl dL_law_615 rfl ?_
  refine r_iload_n C 617 3 rfl dL_law_616 rfl ?_
  refine r_iconst C 618 (1) (by decide) dL_law_617 rfl ?_
  refine r_iadd C 619 dL_law_618 rfl ?_
  refine l_sld C X 620 v1 dL_law_619 rfl ?_
  refine r_aload_n C 621 0 rfl dL_law_620 rfl ?_
  refine r_iload_n C 622 3 rfl dL_law_621 rfl ?_
  refine r_iconst C 623 (2) (by decide) dL_law_622 rfl ?_
  refine r_iadd C 624 dL_law_623 rfl ?_
  refine l_sld C X 625 v2 dL_law_624 rfl ?_
  refine r_aload_n C 626 0 rfl dL_law_625 rfl ?_
  refine r_iload_n C 627 3 rfl dL_law_626 rfl ?_
  refine r_iconst C 628 (3) (by decide) dL_law_627 rfl ?_
  refine r_iadd C 629 dL_law_628 rfl ?_
  refine l_sld C X 630 v3 dL_law_629 rfl ?_
  refine r_aload_n C 631 0 rfl dL_law_630 rfl ?_
  refine r_iload_n C 632 3 rfl dL_law_631 rfl ?_
  refine r_iconst C 633 (4) (by decide) dL_law_632 rfl ?_
  refine r_iadd C 634 dL_law_633 rfl ?_
  refine l_sld C X 635 v4 dL_law_634 rfl ?_
  refine l_callI C 638 [.int v] e2 (ok_f_X12_able (xs (x3 + 1).toNatClampNeg) (xs (x3 + 2).toNatClampNeg) (xs (x3 + 3).toNatClampNeg) (xs (x3 + 4).toNatClampNeg) _) dL_law_635 lvL_61 kt_151 rfl rfl (Nat.le_of_ble_eq_true rfl) (Nat.le_of_ble_eq_true rfl) rfl rfl (Nat.le_of_ble_eq_true rfl) rfl rfl ?_
  refine l_eq C 1479 dL_law_638 (by decide) ?_
  exact k h2 e3
set_option maxHeartbeats 4000000 in
theorem case_11 {κ : Kx Unit} {b L : Nat} {xs : Nat → Int32} (C : Cx κ cL_law RL 4 400 20000 []) (X : Sx κ b L xs) {x3 : Int32} (v1 : vp_in (x3 + 1) L) (v2 : vp_in (x3 + 2) L) (v3 : vp_in (x3 + 3) L) (v4 : vp_in (x3 + 4) L) (v5 : vp_in (x3 + 5) L) {h : CH} (hI : Iv h) (k : ∀ h2, Iv h2 → Imp κ 1479 [(0, .ref b), (1, .ref (kad κ 0)), (2, .ref (kad κ 151)), (3, .int x3)] [] h2 (some ())) : Imp κ 643 [(0, .ref b), (1, .ref (kad κ 0)), (2, .ref (kad κ 151)), (3, .int x3)] [] h (some ()) := by
  obtain ⟨v, h1, h2, e1, e2, e3⟩ := op_pairs hI (xs (x3 + 1).toNatClampNeg) (xs (x3 + 2).toNatClampNeg)
  refine r_aload_n C 644 1 rfl dL_law_643 rfl ?_
  refine r_aload_n C 645 0 rfl dL_law_644 rfl ?_
  refine r_iload_n C 646 3 rfl dL_law_645 rfl ?_
  refine r_iconst C 647 (1) (by decide) dL_law_646 rfl ?_
  refine r_iadd C 648 dL_law_647 rfl ?_
  refine l_sld C X 649 v1 dL_law_648 rfl ?_
  refine r_aload_n C 650 0 rfl dL_law_649 rfl ?_
  refine r_iload_n C 651 3 rfl dL_law_650 rfl ?_
  refine r_iconst C 652 (2) (by decide) dL_law_651 rfl ?_
  refine r_iadd C 653 dL_law_652 rfl ?_
  refine l_sld C X 654 v2 dL_law_653 rfl ?_
  refine l_callI C 657 [] e1 (ok_f_X11_pairs (xs (x3 + 1).toNatClampNeg) (xs (x3 + 2).toNatClampNeg) _) dL_law_654 lvL_62 kt_0 rfl rfl (Nat.le_of_ble_eq_true rfl) (Nat.le_of_ble_eq_true rfl) rfl rfl (Nat.le_of_ble_eq_true rfl) rfl rfl ?_
  refine r_aload_n C 658 2 rfl dL_law_657 rfl ?_
  refine r_aload_n C 659 0 rfl dL_law_658 rfl ?_
  refine r_iload_n C 660 3 rfl dL_law_659 rfl ?_
  refine r_iconst C 661 (1) (by decide) dL_law_660 rfl ?_
  refine r_iadd C 662 dL_law_661 rfl ?_
  refine l_sld C X 663 v1 dL_law_662 rfl ?_
  refine r_aload_n C 664 0 rfl dL_law_663 rfl ?_
  refine r_iload_n C 665 3 rfl dL_law_664 rfl ?_
  refine r_iconst C 666 (2) (by decide) dL_law_665 rfl ?_
  refine r_iadd C 667 dL_law_666 rfl ?_
  refine l_sld C X 668 v2 dL_law_667 rfl ?_
  refine l_callI C 671 [.int v] e2 (ok_f_X12_pairs (xs (x3 + 1).toNatClampNeg) (xs (x3 + 2).toNatClampNeg) _) dL_law_668 lvL_66 kt_151 rfl rfl (Nat.le_of_ble_eq_true rfl) (Nat.le_of_ble_eq_true rfl) rfl rfl (Nat.le_of_ble_eq_true rfl) rfl rfl ?_
  refine l_eq C 1479 dL_law_671 (by decide) ?_
  exact k h2 e3
set_option maxHeartbeats 4000000 in
theorem case_12 {κ : Kx Unit} {b L : Nat} {xs : Nat → Int32} (C : Cx κ cL_law RL 4 400 20000 []) (X : Sx κ b L xs) {x3 : Int32} (v1 : vp_in (x3 + 1) L) (v2 : vp_in (x3 + 2) L) (v3 : vp_in (x3 + 3) L) (v4 : vp_in (x3 + 4) L) (v5 : vp_in (x3 + 5) L) {h : CH} (hI : Iv h) (k : ∀ h2, Iv h2 → Imp κ 1479 [(0, .ref b), (1, .ref (kad κ 0)), (2, .ref (kad κ 151)), (3, .int x3)] [] h2 (some ())) : Imp κ 676 [(0, .ref b), (1, .ref (kad κ 0)), (2, .ref (kad κ 151)), (3, .int x3)] [] h (some ()) := by
  obtain ⟨v, h1, h2, e1, e2, e3⟩ := op_pair hI (xs (x3 + 1).toNatClampNeg) (xs (x3 + 2).toNatClampNeg) (xs (x3 + 3).toNatClampNeg)
  refine r_aload_n C 677 1 rfl dL_law_676 rfl ?_
  refine r_aload_n C 678 0 rfl dL_law_677 rfl ?_
  refine r_iload_n C 679 3 rfl dL_law_678 rfl ?_
  refine r_iconst C 680 (1) (by decide) dL_law_679 rfl ?_
  refine r_iadd C 681 dL_law_680 rfl ?_
  refine l_sld C X 682 v1 dL_law_681 rfl ?_
  refine r_aload_n C 683 0 rfl dL_law_682 rfl ?_
  refine r_iload_n C 684 3 rfl dL_law_683 rfl ?_
  refine r_iconst C 685 (2) (by decide) dL_law_684 rfl ?_
  refine r_iadd C 686 dL_law_685 rfl ?_
  refine l_sld C X 687 v2 dL_law_686 rfl ?_
  refine r_aload_n C 688 0 rfl dL_law_687 rfl ?_
  refine r_iload_n C 689 3 rfl dL_law_688 rfl ?_
  refine r_iconst C 690 (3) (by decide) dL_law_689 rfl ?_
  refine r_iadd C 691 dL_law_690 rfl ?_
  refine l_sld C X 692 v3 dL_law_691 rfl ?_
  refine l_callI C 695 [] e1 (ok_f_X11_pair (xs (x3 + 1).toNatClampNeg) (xs (x3 + 2).toNatClampNeg) (xs (x3 + 3).toNatClampNeg) _) dL_law_692 lvL_67 kt_0 rfl rfl (Nat.le_of_ble_eq_true rfl) (Nat.le_of_ble_eq_true rfl) rfl rfl (Nat.le_of_ble_eq_true rfl) rfl rfl ?_
  refine r_aload_n C 696 2 rfl dL_law_695 rfl ?_
  refine r_aload_n C 697 0 rfl dL_law_696 rfl ?_
  refine r_iload_n C 698 3 rfl dL_law_697 rfl ?_
  refine r_iconst C 699 (1) (by decide) dL_law_698 rfl ?_
  refine r_iadd C 700 dL_law_699 rfl ?_
  refine l_sld C X 701 v1 dL_law_700 rfl ?_
  refine r_aload_n C 702 0 rfl dL_law_701 rfl ?_
  refine r_iload_n C 703 3 rfl dL_law_702 rfl ?_
  refine r_iconst C 704 (2) (by decide) dL_law_703 rfl ?_
  refine r_iadd C 705 dL_law_704 rfl ?_
  refine l_sld C X 706 v2 dL_law_705 rfl ?_
  refine r_aload_n C 707 0 rfl dL_law_706 rfl ?_
  refine r_iload_n C 708 3 rfl dL_law_707 rfl ?_
  refine r_iconst C 709 (3) (by decide) dL_law_708 rfl ?_
  refine r_iadd C 710 dL_law_709 rfl ?_
  refine l_sld C X 711 v3 dL_law_710 rfl ?_
  refine l_callI C 714 [.int v] e2 (ok_f_X12_pair (xs (x3 + 1).toNatClampNeg) (xs (x3 + 2).toNatClampNeg) (xs (x3 + 3).toNatClampNeg) _) dL_law_711 lvL_70 kt_151 rfl rfl (Nat.le_of_ble_eq_true rfl) (Nat.le_of_ble_eq_true rfl) rfl rfl (Nat.le_of_ble_eq_true rfl) rfl rfl ?_
  refine l_eq C 1479 dL_law_714 (by decide) ?_
  exact k h2 e3
set_option maxHeartbeats 4000000 in
theorem case_13 {κ : Kx Unit} {b L : Nat} {xs : Nat → Int32} (C : Cx κ cL_law RL 4 400 20000 []) (X : Sx κ b L xs) {x3 : Int32} (v1 : vp_in (x3 + 1) L) (v2 : vp_in (x3 + 2) L) (v3 : vp_in (x3 + 3) L) (v4 : vp_in (x3 + 4) L) (v5 : vp_in (x3 + 5) L) {h : CH} (hI : Iv h) (k : ∀ h2, Iv h2 → Imp κ 1479 [(0, .ref b), (1, .ref (kad κ 0)), (2, .ref (kad κ 151)), (3, .int x3)] [] h2 (some ())) : Imp κ 719 [(0, .ref b), (1, .ref (kad κ 0)), (2, .ref (kad κ 151)), (3, .int x3)] [] h (some ()) := by
  obtain ⟨v, h1, h2, e1, e2, e3⟩ := op_gate hI (xs (x3 + 1).toNatClampNeg) (xs (x3 + 2).toNatClampNeg) (xs (x3 + 3).toNatClampNeg) (xs (x3 + 4).toNatClampNeg)
  refine r_aload_n C 720 1 rfl dL_law_719 rfl ?_
  refine r_aload_n C 721 0 rfl dL_law_720 rfl ?_
  refine r_iload_n C 722 3 rfl dL_law_721 rfl ?_
  refine r_iconst C 723 (1) (by decide) dL_law_722 rfl ?_
  refine r_iadd C 724 dL_law_723 rfl ?_
  refine l_sld C X 725 v1 dL_law_724 rfl ?_
  refine r_aload_n C 726 0 rfl dL_law_725 rfl ?_
  refine r_iload_n C 727 3 rfl dL_law_726 rfl ?_
  refine r_iconst C 728 (2) (by decide) dL_law_727 rfl ?_
  refine r_iadd C 729 dL_law_728 rfl ?_
  refine l_sld C X 730 v2 dL_law_729 rfl ?_
  refine r_aload_n C 731 0 rfl dL_law_730 rfl ?_
  refine r_iload_n C 732 3 rfl dL_law_731 rfl ?_
  refine r_iconst C 733 (3) (by decide) dL_law_732 rfl ?_
  refine r_iadd C 734 dL_law_733 rfl ?_
  refine l_sld C X 735 v3 dL_law_734 rfl ?_
  refine r_aload_n C 736 0 rfl dL_law_735 rfl ?_
  refine r_iload_n C 737 3 rfl dL_law_736 rfl ?_
  refine r_iconst C 738 (4) (by decide) dL_law_737 rfl ?_
  refine r_iadd C 739 dL_law_738 rfl ?_
  refine l_sld C X 740 v4 dL_law_739 rfl ?_
  refine l_callI C 743 [] e1 (ok_f_X11_gate (xs (x3 + 1).toNatClampNeg) (xs (x3 + 2).toNatClampNeg) (xs (x3 + 3).toNatClampNeg) (xs (x3 + 4).toNatClampNeg) _) dL_law_740 lvL_71 kt_0 rfl rfl (Nat.le_of_ble_eq_true rfl) (Nat.le_of_ble_eq_true rfl) rfl rfl (Nat.le_of_ble_eq_true rfl) rfl rfl ?_
  refine r_aload_n C 744 2 rfl dL_law_743 rfl ?_
  refine r_aload_n C 745 0 rfl dL_law_744 rfl ?_
  refine r_iload_n C 746 3 rfl dL_law_745 rfl ?_
  refine r_iconst C 747 (1) (by decide) dL_law_746 rfl ?_
  refine r_iadd C 748 dL_law_747 rfl ?_
  refine l_sld C X 749 v1 dL_law_748 rfl ?_
  refine r_aload_n C 750 0 rfl dL_law_749 rfl ?_
  refine r_iload_n C 751 3 rfl dL_law_750 rfl ?_
  refine r_iconst C 752 (2) (by decide) dL_law_751 rfl ?_
  refine r_iadd C 753 dL_law_752 rfl ?_
  refine l_sld C X 754 v2 dL_law_753 rfl ?_
  refine r_aload_n C 755 0 rfl dL_law_754 rfl ?_
  refine r_iload_n C 756 3 rfl dL_law_755 rfl ?_
  refine r_iconst C 757 (3) (by decide) dL_law_756 rfl ?_
  refine r_iadd C 758 dL_law_757 rfl ?_
  refine l_sld C X 759 v3 dL_law_758 rfl ?_
  refine r_aload_n C 760 0 rfl dL_law_759 rfl ?_
  refine r_iload_n C 761 3 rfl dL_law_760 rfl ?_
  refine r_iconst C 762 (4) (by decide) dL_law_761 rfl ?_
  refine r_iadd C 763 dL_law_762 rfl ?_
  refine l_sld C X 764 v4 dL_law_763 rfl ?_
  refine l_callI C 767 [.int v] e2 (ok_f_X12_gate (xs (x3 + 1).toNatClampNeg) (xs (x3 + 2).toNatClampNeg) (xs (x3 + 3).toNatClampNeg) (xs (x3 + 4).toNatClampNeg) _) dL_law_764 lvL_74 kt_151 rfl rfl (Nat.le_of_ble_eq_true rfl) (Nat.le_of_ble_eq_true rfl) rfl rfl (Nat.le_of_ble_eq_true rfl) rfl rfl ?_
  refine l_eq C 1479 dL_law_767 (by decide) ?_
  exact k h2 e3
set_option maxHeartbeats 4000000 in
theorem case_14 {κ : Kx Unit} {b L : Nat} {xs : Nat → Int32} (C : Cx κ cL_law RL 4 400 20000 []) (X : Sx κ b L xs) {x3 : Int32} (v1 : vp_in (x3 + 1) L) (v2 : vp_in (x3 + 2) L) (v3 : vp_in (x3 + 3) L) (v4 : vp_in (x3 + 4) L) (v5 : vp_in (x3 + 5) L) {h : CH} (hI : Iv h) (k : ∀ h2, Iv h2 → Imp κ 1479 [(0, .ref b), (1, .ref (kad κ 0)), (2, .ref (kad κ 151)), (3, .int x3)] [] h2 (some ())) : Imp κ 772 [(0, .ref b), (1, .ref (kad κ 0)), (2, .ref (kad κ 151)), (3, .int x3)] [] h (some ()) := by
  obtain ⟨v, h1, h2, e1, e2, e3⟩ := op_twins hI (xs (x3 + 1).toNatClampNeg) (xs (x3 + 2).toNatClampNeg)
  refine r_aload_n C 773 1 rfl dL_law_772 rfl ?_
  refine r_aload_n C 774 0 rfl dL_law_773 rfl ?_
  refine r_iload_n C 775 3 rfl dL_law_774 rfl ?_
  refine r_iconst C 776 (1) (by decide) dL_law_775 rfl ?_
  refine r_iadd C 777 dL_law_776 rfl ?_
  refine l_sld C X 778 v1 dL_law_777 rfl ?_
  refine r_aload_n C 779 0 rfl dL_law_778 rfl ?_
  refine r_iload_n C 780 3 rfl dL_law_779 rfl ?_
  refine r_iconst C 781 (2) (by decide) dL_law_780 rfl ?_
  refine r_iadd C 782 dL_law_781 rfl ?_
  refine l_sld C X 783 v2 dL_law_782 rfl ?_
  refine l_callI C 786 [] e1 (ok_f_X11_twins (xs (x3 + 1).toNatClampNeg) (xs (x3 + 2).toNatClampNeg) _) dL_law_783 lvL_75 kt_0 rfl rfl (Nat.le_of_ble_eq_true rfl) (Nat.le_of_ble_eq_true rfl) rfl rfl (Nat.le_of_ble_eq_true rfl) rfl rfl ?_
  refine r_aload_n C 787 2 rfl dL_law_786 rfl ?_
  refine r_aload_n C 788 0 rfl dL_law_787 rfl ?_
  refine r_iload_n C 789 3 rfl dL_law_788 rfl ?_
  refine r_iconst C 790 (1) (by decide) dL_law_789 rfl ?_
  refine r_iadd C 791 dL_law_790 rfl ?_
  refine l_sld C X 792 v1 dL_law_791 rfl ?_
  refine r_aload_n C 793 0 rfl dL_law_792 rfl ?_
  refine r_iload_n C 794 3 rfl dL_law_793 rfl ?_
  refine r_iconst C 795 (2) (by decide) dL_law_794 rfl ?_
  refine r_iadd C 796 dL_law_795 rfl ?_
  refine l_sld C X 797 v2 dL_law_796 rfl ?_
  refine l_callI C 800 [.int v] e2 (ok_f_X12_twins (xs (x3 + 1).toNatClampNeg) (xs (x3 + 2).toNatClampNeg) _) dL_law_797 lvL_78 kt_151 rfl rfl (Nat.le_of_ble_eq_true rfl) (Nat.le_of_ble_eq_true rfl) rfl rfl (Nat.le_of_ble_eq_true rfl) rfl rfl ?_
  refine l_eq C 1479 dL_law_800 (by decide) ?_
  exact k h2 e3
set_option maxHeartbeats 4000000 in
theorem case_15 {κ : Kx Unit} {b L : Nat} {xs : Nat → Int32} (C : Cx κ cL_law RL 4 400 20000 []) (X : Sx κ b L xs) {x3 : Int32} (v1 : vp_in (x3 + 1) L) (v2 : vp_in (x3 + 2) L) (v3 : vp_in (x3 + 3) L) (v4 : vp_in (x3 + 4) L) (v5 : vp_in (x3 + 5) L) {h : CH} (hI : Iv h) (k : ∀ h2, Iv h2 → Imp κ 1479 [(0, .ref b), (1, .ref (kad κ 0)), (2, .ref (kad κ 151)), (3, .int x3)] [] h2 (some ())) : Imp κ 805 [(0, .ref b), (1, .ref (kad κ 0)), (2, .ref (kad κ 151)), (3, .int x3)] [] h (some ()) := by
  obtain ⟨v, h1, h2, e1, e2, e3⟩ := op_until hI (xs (x3 + 1).toNatClampNeg) (xs (x3 + 2).toNatClampNeg)
  refine r_aload_n C 806 1 rfl dL_law_805 rfl ?_
  refine r_aload_n C 807 0 rfl dL_law_806 rfl ?_
  refine r_iload_n C 808 3 rfl dL_law_807 rfl ?_
  refine r_iconst C 809 (1) (by decide) dL_law_808 rfl ?_
  refine r_iadd C 810 dL_law_809 rfl ?_
  refine l_sld C X 811 v1 dL_law_810 rfl ?_
  refine r_aload_n C 812 0 rfl dL_law_811 rfl ?_
  refine r_iload_n C 813 3 rfl dL_law_812 rfl ?_
  refine r_iconst C 814 (2) (by decide) dL_law_813 rfl ?_
  refine r_iadd C 815 dL_law_814 rfl ?_
  refine l_sld C X 816 v2 dL_law_815 rfl ?_
  refine l_callI C 819 [] e1 (ok_f_X11_until (xs (x3 + 1).toNatClampNeg) (xs (x3 + 2).toNatClampNeg) _) dL_law_816 lvL_79 kt_0 rfl rfl (Nat.le_of_ble_eq_true rfl) (Nat.le_of_ble_eq_true rfl) rfl rfl (Nat.le_of_ble_eq_true rfl) rfl rfl ?_
  refine r_aload_n C 820 2 rfl dL_law_819 rfl ?_
  refine r_aload_n C 821 0 rfl dL_law_820 rfl ?_
  refine r_iload_n C 822 3 rfl dL_law_821 rfl ?_
  refine r_iconst C 823 (1) (by decide) dL_law_822 rfl ?_
  refine r_iadd C 824 dL_law_823 rfl ?_
  refine l_sld C X 825 v1 dL_law_824 rfl ?_
  refine r_aload_n C 826 0 rfl dL_law_825 rfl ?_
  refine r_iload_n C 827 3 rfl dL_law_826 rfl ?_
  refine r_iconst C 828 (2) (by decide) dL_law_827 rfl ?_
  refine r_iadd C 829 dL_law_828 rfl ?_
  refine l_sld C X 830 v2 dL_law_829 rfl ?_
  refine l_callI C 833 [.int v] e2 (ok_f_X12_until (xs (x3 + 1).toNatClampNeg) (xs (x3 + 2).toNatClampNeg) _) dL_law_830 lvL_82 kt_151 rfl rfl (Nat.le_of_ble_eq_true rfl) (Nat.le_of_ble_eq_true rfl) rfl rfl (Nat.le_of_ble_eq_true rfl) rfl rfl ?_
  refine l_eq C 1479 dL_law_833 (by decide) ?_
  exact k h2 e3
set_option maxHeartbeats 4000000 in
theorem case_16 {κ : Kx Unit} {b L : Nat} {xs : Nat → Int32} (C : Cx κ cL_law RL 4 400 20000 []) (X : Sx κ b L xs) {x3 : Int32} (v1 : vp_in (x3 + 1) L) (v2 : vp_in (x3 + 2) L) (v3 : vp_in (x3 + 3) L) (v4 : vp_in (x3 + 4) L) (v5 : vp_in (x3 + 5) L) {h : CH} (hI : Iv h) (k : ∀ h2, Iv h2 → Imp κ 1479 [(0, .ref b), (1, .ref (kad κ 0)), (2, .ref (kad κ 151)), (3, .int x3)] [] h2 (some ())) : Imp κ 838 [(0, .ref b), (1, .ref (kad κ 0)), (2, .ref (kad κ 151)), (3, .int x3)] [] h (some ()) := by
  obtain ⟨v, h1, h2, e1, e2, e3⟩ := op_signs hI (xs (x3 + 1).toNatClampNeg) (xs (x3 + 2).toNatClampNeg) (xs (x3 + 3).toNatClampNeg) (xs (x3 + 4).toNatClampNeg)
  refine r_aload_n C 839 1 rfl dL_law_838 rfl ?_
  refine r_aload_n C 840 0 rfl dL_law_839 rfl ?_
  refine r_iload_n C 841 3 rfl dL_law_840 rfl ?_
  refine r_iconst C 842 (1) (by decide) dL_law_841 rfl ?_
  refine r_iadd C 843 dL_law_842 rfl ?_
  refine l_sld C X 844 v1 dL_law_843 rfl ?_
  refine r_aload_n C 845 0 rfl dL_law_844 rfl ?_
  refine r_iload_n C 846 3 rfl dL_law_845 rfl ?_
  refine r_iconst C 847 (2) (by decide) dL_law_846 rfl ?_
  refine r_iadd C 848 dL_law_847 rfl ?_
  refine l_sld C X 849 v2 dL_law_848 rfl ?_
  refine r_aload_n C 850 0 rfl dL_law_849 rfl ?_
  refine r_iload_n C 851 3 rfl dL_law_850 rfl ?_
  refine r_iconst C 852 (3) (by decide) dL_law_851 rfl ?_
  refine r_iadd C 853 dL_law_852 rfl ?_
  refine l_sld C X 854 v3 dL_law_853 rfl ?_
  refine r_aload_n C 855 0 rfl dL_law_854 rfl ?_
  refine r_iload_n C 856 3 rfl dL_law_855 rfl ?_
  refine r_iconst C 857 (4) (by decide) dL_law_856 rfl ?_
  refine r_iadd C 858 dL_law_857 rfl ?_
  refine l_sld C X 859 v4 dL_law_858 rfl ?_
  refine l_callI C 862 [] e1 (ok_f_X11_signs (xs (x3 + 1).toNatClampNeg) (xs (x3 + 2).toNatClampNeg) (xs (x3 + 3).toNatClampNeg) (xs (x3 + 4).toNatClampNeg) _) dL_law_859 lvL_83 kt_0 rfl rfl (Nat.le_of_ble_eq_true rfl) (Nat.le_of_ble_eq_true rfl) rfl rfl (Nat.le_of_ble_eq_true rfl) rfl rfl ?_
  refine r_aload_n C 863 2 rfl dL_law_862 rfl ?_
  refine r_aload_n C 864 0 rfl dL_law_863 rfl ?_
  refine r_iload_n C 865 3 rfl dL_law_864 rfl ?_
  refine r_iconst C 866 (1) (by decide) dL_law_865 rfl ?_
  refine r_iadd C 867 dL_law_866 rfl ?_
  refine l_sld C X 868 v1 dL_law_867 rfl ?_
  refine r_aload_n C 869 0 rfl dL_law_868 rfl ?_
  refine r_iload_n C 870 3 rfl dL_law_869 rfl ?_
  refine r_iconst C 871 (2) (by decide) dL_law_870 rfl ?_
  refine r_iadd C 872 dL_law_871 rfl ?_
  refine l_sld C X 873 v2 dL_law_872 rfl ?_
  refine r_aload_n C 874 0 rfl dL_law_873 rfl ?_
  refine r_iload_n C 875 3 rfl dL_law_874 rfl ?_
  refine r_iconst C 876 (3) (by decide) dL_law_875 rfl ?_
  refine r_iadd C 877 dL_law_876 rfl ?_
  refine l_sld C X 878 v3 dL_law_877 rfl ?_
  refine r_aload_n C 879 0 rfl dL_law_878 rfl ?_
  refine r_iload_n C 880 3 rfl dL_law_879 rfl ?_
  refine r_iconst C 881 (4) (by decide) dL_law_880 rfl ?_
  refine r_iadd C 882 dL_law_881 rfl ?_
  refine l_sld C X 883 v4 dL_law_882 rfl ?_
  refine l_callI C 886 [.int v] e2 (ok_f_X12_signs (xs (x3 + 1).toNatClampNeg) (xs (x3 + 2).toNatClampNeg) (xs (x3 + 3).toNatClampNeg) (xs (x3 + 4).toNatClampNeg) _) dL_law_883 lvL_86 kt_151 rfl rfl (Nat.le_of_ble_eq_true rfl) (Nat.le_of_ble_eq_true rfl) rfl rfl (Nat.le_of_ble_eq_true rfl) rfl rfl ?_
  refine l_eq C 1479 dL_law_886 (by decide) ?_
  exact k h2 e3
set_option maxHeartbeats 4000000 in
theorem case_17 {κ : Kx Unit} {b L : Nat} {xs : Nat → Int32} (C : Cx κ cL_law RL 4 400 20000 []) (X : Sx κ b L xs) {x3 : Int32} (v1 : vp_in (x3 + 1) L) (v2 : vp_in (x3 + 2) L) (v3 : vp_in (x3 + 3) L) (v4 : vp_in (x3 + 4) L) (v5 : vp_in (x3 + 5) L) {h : CH} (hI : Iv h) (k : ∀ h2, Iv h2 → Imp κ 1479 [(0, .ref b), (1, .ref (kad κ 0)), (2, .ref (kad κ 151)), (3, .int x3)] [] h2 (some ())) : Imp κ 891 [(0, .ref b), (1, .ref (kad κ 0)), (2, .ref (kad κ 151)), (3, .int x3)] [] h (some ()) := by
  obtain ⟨v, h1, h2, e1, e2, e3⟩ := op_caught hI (xs (x3 + 1).toNatClampNeg) (xs (x3 + 2).toNatClampNeg)
  refine r_aload_n C 892 1 rfl dL_law_891 rfl ?_
  refine r_aload_n C 893 0 rfl dL_law_892 rfl ?_
  refine r_iload_n C 894 3 rfl dL_law_893 rfl ?_
  refine r_iconst C 895 (1) (by decide) dL_law_894 rfl ?_
  refine r_iadd C 896 dL_law_895 rfl ?_
  refine l_sld C X 897 v1 dL_law_896 rfl ?_
  refine r_aload_n C 898 0 rfl dL_law_897 rfl ?_
  refine r_iload_n C 899 3 rfl dL_law_898 rfl ?_
  refine r_iconst C 900 (2) (by decide) dL_law_899 rfl ?_
  refine r_iadd C 901 dL_law_900 rfl ?_
  refine l_sld C X 902 v2 dL_law_901 rfl ?_
  refine l_callI C 905 [] e1 (ok_f_X11_caught (xs (x3 + 1).toNatClampNeg) (xs (x3 + 2).toNatClampNeg) _) dL_law_902 lvL_87 kt_0 rfl rfl (Nat.le_of_ble_eq_true rfl) (Nat.le_of_ble_eq_true rfl) rfl rfl (Nat.le_of_ble_eq_true rfl) rfl rfl ?_
  refine r_aload_n C 906 2 rfl dL_law_905 rfl ?_
  refine r_aload_n C 907 0 rfl dL_law_906 rfl ?_
  refine r_iload_n C 908 3 rfl dL_law_907 rfl ?_
  refine r_iconst C 909 (1) (by decide) dL_law_908 rfl ?_
  refine r_iadd C 910 dL_law_909 rfl ?_
  refine l_sld C X 911 v1 dL_law_910 rfl ?_
  refine r_aload_n C 912 0 rfl dL_law_911 rfl ?_
  refine r_iload_n C 913 3 rfl dL_law_912 rfl ?_
  refine r_iconst C 914 (2) (by decide) dL_law_913 rfl ?_
  refine r_iadd C 915 dL_law_914 rfl ?_
  refine l_sld C X 916 v2 dL_law_915 rfl ?_
  refine l_callI C 919 [.int v] e2 (ok_f_X12_caught (xs (x3 + 1).toNatClampNeg) (xs (x3 + 2).toNatClampNeg) _) dL_law_916 lvL_90 kt_151 rfl rfl (Nat.le_of_ble_eq_true rfl) (Nat.le_of_ble_eq_true rfl) rfl rfl (Nat.le_of_ble_eq_true rfl) rfl rfl ?_
  refine l_eq C 1479 dL_law_919 (by decide) ?_
  exact k h2 e3
set_option maxHeartbeats 4000000 in
theorem case_18 {κ : Kx Unit} {b L : Nat} {xs : Nat → Int32} (C : Cx κ cL_law RL 4 400 20000 []) (X : Sx κ b L xs) {x3 : Int32} (v1 : vp_in (x3 + 1) L) (v2 : vp_in (x3 + 2) L) (v3 : vp_in (x3 + 3) L) (v4 : vp_in (x3 + 4) L) (v5 : vp_in (x3 + 5) L) {h : CH} (hI : Iv h) (k : ∀ h2, Iv h2 → Imp κ 1479 [(0, .ref b), (1, .ref (kad κ 0)), (2, .ref (kad κ 151)), (3, .int x3)] [] h2 (some ())) : Imp κ 924 [(0, .ref b), (1, .ref (kad κ 0)), (2, .ref (kad κ 151)), (3, .int x3)] [] h (some ()) := by
  obtain ⟨v, h1, h2, e1, e2, e3⟩ := op_paper hI (xs (x3 + 1).toNatClampNeg) (xs (x3 + 2).toNatClampNeg) (xs (x3 + 3).toNatClampNeg) (xs (x3 + 4).toNatClampNeg)
  refine r_aload_n C 925 1 rfl dL_law_924 rfl ?_
  refine r_aload_n C 926 0 rfl dL_law_925 rfl ?_
  refine r_iload_n C 927 3 rfl dL_law_926 rfl ?_
  refine r_iconst C 928 (1) (by decide) dL_law_927 rfl ?_
  refine r_iadd C 929 dL_law_928 rfl ?_
  refine l_sld C X 930 v1 dL_law_929 rfl ?_
  refine r_aload_n C 931 0 rfl dL_law_930 rfl ?_
  refine r_iload_n C 932 3 rfl dL_law_931 rfl ?_
  refine r_iconst C 933 (2) (by decide) dL_law_932 rfl ?_
  refine r_iadd C 934 dL_law_933 rfl ?_
  refine l_sld C X 935 v2 dL_law_934 rfl ?_
  refine r_aload_n C 936 0 rfl dL_law_935 rfl ?_
  refine r_iload_n C 937 3 rfl dL_law_936 rfl ?_
  refine r_iconst C 938 (3) (by decide) dL_law_937 rfl ?_
  refine r_iadd C 939 dL_law_938 rfl ?_
  refine l_sld C X 940 v3 dL_law_939 rfl ?_
  refine r_aload_n C 941 0 rfl dL_law_940 rfl ?_
  refine r_iload_n C 942 3 rfl dL_law_941 rfl ?_
  refine r_iconst C 943 (4) (by decide) dL_law_942 rfl ?_
  refine r_iadd C 944 dL_law_943 rfl ?_
  refine l_sld C X 945 v4 dL_law_944 rfl ?_
  refine l_callI C 948 [] e1 (ok_f_X11_paper (xs (x3 + 1).toNatClampNeg) (xs (x3 + 2).toNatClampNeg) (xs (x3 + 3).toNatClampNeg) (xs (x3 + 4).toNatClampNeg) _) dL_law_945 lvL_91 kt_0 rfl rfl (Nat.le_of_ble_eq_true rfl) (Nat.le_of_ble_eq_true rfl) rfl rfl (Nat.le_of_ble_eq_true rfl) rfl rfl ?_
  refine r_aload_n C 949 2 rfl dL_law_948 rfl ?_
  refine r_aload_n C 950 0 rfl dL_law_949 rfl ?_
  refine r_iload_n C 951 3 rfl dL_law_950 rfl ?_
  refine r_iconst C 952 (1) (by decide) dL_law_951 rfl ?_
  refine r_iadd C 953 dL_law_952 rfl ?_
  refine l_sld C X 954 v1 dL_law_953 rfl ?_
  refine r_aload_n C 955 0 rfl dL_law_954 rfl ?_
  refine r_iload_n C 956 3 rfl dL_law_955 rfl ?_
  refine r_iconst C 957 (2) (by decide) dL_law_956 rfl ?_
  refine r_iadd C 958 dL_law_957 rfl ?_
  refine l_sld C X 959 v2 dL_law_958 rfl ?_
  refine r_aload_n C 960 0 rfl dL_law_959 rfl ?_
  refine r_iload_n C 961 3 rfl dL_law_960 rfl ?_
  refine r_iconst C 962 (3) (by decide) dL_law_961 rfl ?_
  refine r_iadd C 963 dL_law_962 rfl ?_
  refine l_sld C X 964 v3 dL_law_963 rfl ?_
  refine r_aload_n C 965 0 rfl dL_law_964 rfl ?_
  refine r_iload_n C 966 3 rfl dL_law_965 rfl ?_
  refine r_iconst C 967 (4) (by decide) dL_law_966 rfl ?_
  refine r_iadd C 968 dL_law_967 rfl ?_
  refine l_sld C X 969 v4 dL_law_968 rfl ?_
  refine l_callI C 972 [.int v] e2 (ok_f_X12_paper (xs (x3 + 1).toNatClampNeg) (xs (x3 + 2).toNatClampNeg) (xs (x3 + 3).toNatClampNeg) (xs (x3 + 4).toNatClampNeg) _) dL_law_969 lvL_94 kt_151 rfl rfl (Nat.le_of_ble_eq_true rfl) (Nat.le_of_ble_eq_true rfl) rfl rfl (Nat.le_of_ble_eq_true rfl) rfl rfl ?_
  refine l_eq C 1479 dL_law_972 (by decide) ?_
  exact k h2 e3
set_option maxHeartbeats 4000000 in
theorem case_19 {κ : Kx Unit} {b L : Nat} {xs : Nat → Int32} (C : Cx κ cL_law RL 4 400 20000 []) (X : Sx κ b L xs) {x3 : Int32} (v1 : vp_in (x3 + 1) L) (v2 : vp_in (x3 + 2) L) (v3 : vp_in (x3 + 3) L) (v4 : vp_in (x3 + 4) L) (v5 : vp_in (x3 + 5) L) {h : CH} (hI : Iv h) (k : ∀ h2, Iv h2 → Imp κ 1479 [(0, .ref b), (1, .ref (kad κ 0)), (2, .ref (kad κ 151)), (3, .int x3)] [] h2 (some ())) : Imp κ 977 [(0, .ref b), (1, .ref (kad κ 0)), (2, .ref (kad κ 151)), (3, .int x3)] [] h (some ()) := by
  obtain ⟨v, h1, h2, e1, e2, e3⟩ := op_untell hI (xs (x3 + 1).toNatClampNeg)
  refine r_aload_n C 978 1 rfl dL_law_977 rfl ?_
  refine r_aload_n C 979 0 rfl dL_law_978 rfl ?_
  refine r_iload_n C 980 3 rfl dL_law_979 rfl ?_
  refine r_iconst C 981 (1) (by decide) dL_law_980 rfl ?_
  refine r_iadd C 982 dL_law_981 rfl ?_
  refine l_sld C X 983 v1 dL_law_982 rfl ?_
  refine l_callI C 986 [] e1 (ok_f_X11_untell (xs (x3 + 1).toNatClampNeg) _) dL_law_983 lvL_95 kt_0 rfl rfl (Nat.le_of_ble_eq_true rfl) (Nat.le_of_ble_eq_true rfl) rfl rfl (Nat.le_of_ble_eq_true rfl) rfl rfl ?_
  refine r_aload_n C 987 2 rfl dL_law_986 rfl ?_
  refine r_aload_n C 988 0 rfl dL_law_987 rfl ?_
  refine r_iload_n C 989 3 rfl dL_law_988 rfl ?_
  refine r_iconst C 990 (1) (by decide) dL_law_989 rfl ?_
  refine r_iadd C 991 dL_law_990 rfl ?_
  refine l_sld C X 992 v1 dL_law_991 rfl ?_
  refine l_callI C 995 [.int v] e2 (ok_f_X12_untell (xs (x3 + 1).toNatClampNeg) _) dL_law_992 lvL_99 kt_151 rfl rfl (Nat.le_of_ble_eq_true rfl) (Nat.le_of_ble_eq_true rfl) rfl rfl (Nat.le_of_ble_eq_true rfl) rfl rfl ?_
  refine l_eq C 1479 dL_law_995 (by decide) ?_
  exact k h2 e3
set_option maxHeartbeats 4000000 in
theorem case_20 {κ : Kx Unit} {b L : Nat} {xs : Nat → Int32} (C : Cx κ cL_law RL 4 400 20000 []) (X : Sx κ b L xs) {x3 : Int32} (v1 : vp_in (x3 + 1) L) (v2 : vp_in (x3 + 2) L) (v3 : vp_in (x3 + 3) L) (v4 : vp_in (x3 + 4) L) (v5 : vp_in (x3 + 5) L) {h : CH} (hI : Iv h) (k : ∀ h2, Iv h2 → Imp κ 1479 [(0, .ref b), (1, .ref (kad κ 0)), (2, .ref (kad κ 151)), (3, .int x3)] [] h2 (some ())) : Imp κ 1000 [(0, .ref b), (1, .ref (kad κ 0)), (2, .ref (kad κ 151)), (3, .int x3)] [] h (some ()) := by
  obtain ⟨v, h1, h2, e1, e2, e3⟩ := op_later hI (xs (x3 + 1).toNatClampNeg)
  refine r_aload_n C 1001 1 rfl dL_law_1000 rfl ?_
  refine r_aload_n C 1002 0 rfl dL_law_1001 rfl ?_
  refine r_iload_n C 1003 3 rfl dL_law_1002 rfl ?_
  refine r_iconst C 1004 (1) (by decide) dL_law_1003 rfl ?_
  refine r_iadd C 1005 dL_law_1004 rfl ?_
  refine l_sld C X 1006 v1 dL_law_1005 rfl ?_
  refine l_callI C 1009 [] e1 (ok_f_X11_later (xs (x3 + 1).toNatClampNeg) _) dL_law_1006 lvL_100 kt_0 rfl rfl (Nat.le_of_ble_eq_true rfl) (Nat.le_of_ble_eq_true rfl) rfl rfl (Nat.le_of_ble_eq_true rfl) rfl rfl ?_
  refine r_aload_n C 1010 2 rfl dL_law_1009 rfl ?_
  refine r_aload_n C 1011 0 rfl dL_law_1010 rfl ?_
  refine r_iload_n C 1012 3 rfl dL_law_1011 rfl ?_
  refine r_iconst C 1013 (1) (by decide) dL_law_1012 rfl ?_
  refine r_iadd C 1014 dL_law_1013 rfl ?_
  refine l_sld C X 1015 v1 dL_law_1014 rfl ?_
  refine l_callI C 1018 [.int v] e2 (ok_f_X12_later (xs (x3 + 1).toNatClampNeg) _) dL_law_1015 lvL_103 kt_151 rfl rfl (Nat.le_of_ble_eq_true rfl) (Nat.le_of_ble_eq_true rfl) rfl rfl (Nat.le_of_ble_eq_true rfl) rfl rfl ?_
  refine l_eq C 1479 dL_law_1018 (by decide) ?_
  exact k h2 e3
set_option maxHeartbeats 4000000 in
theorem case_21 {κ : Kx Unit} {b L : Nat} {xs : Nat → Int32} (C : Cx κ cL_law RL 4 400 20000 []) (X : Sx κ b L xs) {x3 : Int32} (v1 : vp_in (x3 + 1) L) (v2 : vp_in (x3 + 2) L) (v3 : vp_in (x3 + 3) L) (v4 : vp_in (x3 + 4) L) (v5 : vp_in (x3 + 5) L) {h : CH} (hI : Iv h) (k : ∀ h2, Iv h2 → Imp κ 1479 [(0, .ref b), (1, .ref (kad κ 0)), (2, .ref (kad κ 151)), (3, .int x3)] [] h2 (some ())) : Imp κ 1023 [(0, .ref b), (1, .ref (kad κ 0)), (2, .ref (kad κ 151)), (3, .int x3)] [] h (some ()) := by
  obtain ⟨v, h1, h2, e1, e2, e3⟩ := op_behind hI (xs (x3 + 1).toNatClampNeg) (xs (x3 + 2).toNatClampNeg) (xs (x3 + 3).toNatClampNeg)
  refine r_aload_n C 1024 1 rfl dL_law_1023 rfl ?_
  refine r_aload_n C 1025 0 rfl dL_law_1024 rfl ?_
  refine r_iload_n C 1026 3 rfl dL_law_1025 rfl ?_
  refine r_iconst C 1027 (1) (by decide) dL_law_1026 rfl ?_
  refine r_iadd C 1028 dL_law_1027 rfl ?_
  refine l_sld C X 1029 v1 dL_law_1028 rfl ?_
  refine r_aload_n C 1030 0 rfl dL_law_1029 rfl ?_
  refine r_iload_n C 1031 3 rfl dL_law_1030 rfl ?_
  refine r_iconst C 1032 (2) (by decide) dL_law_1031 rfl ?_
  refine r_iadd C 1033 dL_law_1032 rfl ?_
  refine l_sld C X 1034 v2 dL_law_1033 rfl ?_
  refine r_aload_n C 1035 0 rfl dL_law_1034 rfl ?_
  refine r_iload_n C 1036 3 rfl dL_law_1035 rfl ?_
  refine r_iconst C 1037 (3) (by decide) dL_law_1036 rfl ?_
  refine r_iadd C 1038 dL_law_1037 rfl ?_
  refine l_sld C X 1039 v3 dL_law_1038 rfl ?_
  refine l_callI C 1042 [] e1 (ok_f_X11_behind (xs (x3 + 1).toNatClampNeg) (xs (x3 + 2).toNatClampNeg) (xs (x3 + 3).toNatClampNeg) _) dL_law_1039 lvL_104 kt_0 rfl rfl (Nat.le_of_ble_eq_true rfl) (Nat.le_of_ble_eq_true rfl) rfl rfl (Nat.le_of_ble_eq_true rfl) rfl rfl ?_
  refine r_aload_n C 1043 2 rfl dL_law_1042 rfl ?_
  refine r_aload_n C 1044 0 rfl dL_law_1043 rfl ?_
  refine r_iload_n C 1045 3 rfl dL_law_1044 rfl ?_
  refine r_iconst C 1046 (1) (by decide) dL_law_1045 rfl ?_
  refine r_iadd C 1047 dL_law_1046 rfl ?_
  refine l_sld C X 1048 v1 dL_law_1047 rfl ?_
  refine r_aload_n C 1049 0 rfl dL_law_1048 rfl ?_
  refine r_iload_n C 1050 3 rfl dL_law_1049 rfl ?_
  refine r_iconst C 1051 (2) (by decide) dL_law_1050 rfl ?_
  refine r_iadd C 1052 dL_law_1051 rfl ?_
  refine l_sld C X 1053 v2 dL_law_1052 rfl ?_
  refine r_aload_n C 1054 0 rfl dL_law_1053 rfl ?_
  refine r_iload_n C 1055 3 rfl dL_law_1054 rfl ?_
  refine r_iconst C 1056 (3) (by decide) dL_law_1055 rfl ?_
  refine r_iadd C 1057 dL_law_1056 rfl ?_
  refine l_sld C X 1058 v3 dL_law_1057 rfl ?_
  refine l_callI C 1061 [.int v] e2 (ok_f_X12_behind (xs (x3 + 1).toNatClampNeg) (xs (x3 + 2).toNatClampNeg) (xs (x3 + 3).toNatClampNeg) _) dL_law_1058 lvL_107 kt_151 rfl rfl (Nat.le_of_ble_eq_true rfl) (Nat.le_of_ble_eq_true rfl) rfl rfl (Nat.le_of_ble_eq_true rfl) rfl rfl ?_
  refine l_eq C 1479 dL_law_1061 (by decide) ?_
  exact k h2 e3
set_option maxHeartbeats 4000000 in
theorem case_22 {κ : Kx Unit} {b L : Nat} {xs : Nat → Int32} (C : Cx κ cL_law RL 4 400 20000 []) (X : Sx κ b L xs) {x3 : Int32} (v1 : vp_in (x3 + 1) L) (v2 : vp_in (x3 + 2) L) (v3 : vp_in (x3 + 3) L) (v4 : vp_in (x3 + 4) L) (v5 : vp_in (x3 + 5) L) {h : CH} (hI : Iv h) (k : ∀ h2, Iv h2 → Imp κ 1479 [(0, .ref b), (1, .ref (kad κ 0)), (2, .ref (kad κ 151)), (3, .int x3)] [] h2 (some ())) : Imp κ 1066 [(0, .ref b), (1, .ref (kad κ 0)), (2, .ref (kad κ 151)), (3, .int x3)] [] h (some ()) := by
  obtain ⟨v, h1, h2, e1, e2, e3⟩ := op_rings hI (xs (x3 + 1).toNatClampNeg) (xs (x3 + 2).toNatClampNeg)
  refine r_aload_n C 1067 1 rfl dL_law_1066 rfl ?_
  refine r_aload_n C 1068 0 rfl dL_law_1067 rfl ?_
  refine r_iload_n C 1069 3 rfl dL_law_1068 rfl ?_
  refine r_iconst C 1070 (1) (by decide) dL_law_1069 rfl ?_
  refine r_iadd C 1071 dL_law_1070 rfl ?_
  refine l_sld C X 1072 v1 dL_law_1071 rfl ?_
  refine r_aload_n C 1073 0 rfl dL_law_1072 rfl ?_
  refine r_iload_n C 1074 3 rfl dL_law_1073 rfl ?_
  refine r_iconst C 1075 (2) (by decide) dL_law_1074 rfl ?_
  refine r_iadd C 1076 dL_law_1075 rfl ?_
  refine l_sld C X 1077 v2 dL_law_1076 rfl ?_
  refine l_callI C 1080 [] e1 (ok_f_X11_rings (xs (x3 + 1).toNatClampNeg) (xs (x3 + 2).toNatClampNeg) _) dL_law_1077 lvL_108 kt_0 rfl rfl (Nat.le_of_ble_eq_true rfl) (Nat.le_of_ble_eq_true rfl) rfl rfl (Nat.le_of_ble_eq_true rfl) rfl rfl ?_
  refine r_aload_n C 1081 2 rfl dL_law_1080 rfl ?_
  refine r_aload_n C 1082 0 rfl dL_law_1081 rfl ?_
  refine r_iload_n C 1083 3 rfl dL_law_1082 rfl ?_
  refine r_iconst C 1084 (1) (by decide) dL_law_1083 rfl ?_
  refine r_iadd C 1085 dL_law_1084 rfl ?_
  refine l_sld C X 1086 v1 dL_law_1085 rfl ?_
  refine r_aload_n C 1087 0 rfl dL_law_1086 rfl ?_
  refine r_iload_n C 1088 3 rfl dL_law_1087 rfl ?_
  refine r_iconst C 1089 (2) (by decide) dL_law_1088 rfl ?_
  refine r_iadd C 1090 dL_law_1089 rfl ?_
  refine l_sld C X 1091 v2 dL_law_1090 rfl ?_
  refine l_callI C 1094 [.int v] e2 (ok_f_X12_rings (xs (x3 + 1).toNatClampNeg) (xs (x3 + 2).toNatClampNeg) _) dL_law_1091 lvL_111 kt_151 rfl rfl (Nat.le_of_ble_eq_true rfl) (Nat.le_of_ble_eq_true rfl) rfl rfl (Nat.le_of_ble_eq_true rfl) rfl rfl ?_
  refine l_eq C 1479 dL_law_1094 (by decide) ?_
  exact k h2 e3
set_option maxHeartbeats 4000000 in
theorem case_23 {κ : Kx Unit} {b L : Nat} {xs : Nat → Int32} (C : Cx κ cL_law RL 4 400 20000 []) (X : Sx κ b L xs) {x3 : Int32} (v1 : vp_in (x3 + 1) L) (v2 : vp_in (x3 + 2) L) (v3 : vp_in (x3 + 3) L) (v4 : vp_in (x3 + 4) L) (v5 : vp_in (x3 + 5) L) {h : CH} (hI : Iv h) (k : ∀ h2, Iv h2 → Imp κ 1479 [(0, .ref b), (1, .ref (kad κ 0)), (2, .ref (kad κ 151)), (3, .int x3)] [] h2 (some ())) : Imp κ 1099 [(0, .ref b), (1, .ref (kad κ 0)), (2, .ref (kad κ 151)), (3, .int x3)] [] h (some ()) := by
  obtain ⟨v, h1, h2, e1, e2, e3⟩ := op_ring hI (xs (x3 + 1).toNatClampNeg) (xs (x3 + 2).toNatClampNeg)
  refine r_aload_n C 1100 1 rfl dL_law_1099 rfl ?_
  refine r_aload_n C 1101 0 rfl dL_law_1100 rfl ?_
  refine r_iload_n C 1102 3 rfl dL_law_1101 rfl ?_
  refine r_iconst C 1103 (1) (by decide) dL_law_1102 rfl ?_
  refine r_iadd C 1104 dL_law_1103 rfl ?_
  refine l_sld C X 1105 v1 dL_law_1104 rfl ?_
  refine r_aload_n C 1106 0 rfl dL_law_1105 rfl ?_
  refine r_iload_n C 1107 3 rfl dL_law_1106 rfl ?_
  refine r_iconst C 1108 (2) (by decide) dL_law_1107 rfl ?_
  refine r_iadd C 1109 dL_law_1108 rfl ?_
  refine l_sld C X 1110 v2 dL_law_1109 rfl ?_
  refine l_callI C 1113 [] e1 (ok_f_X11_ring (xs (x3 + 1).toNatClampNeg) (xs (x3 + 2).toNatClampNeg) _) dL_law_1110 lvL_112 kt_0 rfl rfl (Nat.le_of_ble_eq_true rfl) (Nat.le_of_ble_eq_true rfl) rfl rfl (Nat.le_of_ble_eq_true rfl) rfl rfl ?_
  refine r_aload_n C 1114 2 rfl dL_law_1113 rfl ?_
  refine r_aload_n C 1115 0 rfl dL_law_1114 rfl ?_
  refine r_iload_n C 1116 3 rfl dL_law_1115 rfl ?_
  refine r_iconst C 1117 (1) (by decide) dL_law_1116 rfl ?_
  refine r_iadd C 1118 dL_law_1117 rfl ?_
  refine l_sld C X 1119 v1 dL_law_1118 rfl ?_
  refine r_aload_n C 1120 0 rfl dL_law_1119 rfl ?_
  refine r_iload_n C 1121 3 rfl dL_law_1120 rfl ?_
  refine r_iconst C 1122 (2) (by decide) dL_law_1121 rfl ?_
  refine r_iadd C 1123 dL_law_1122 rfl ?_
  refine l_sld C X 1124 v2 dL_law_1123 rfl ?_
  refine l_callI C 1127 [.int v] e2 (ok_f_X12_ring (xs (x3 + 1).toNatClampNeg) (xs (x3 + 2).toNatClampNeg) _) dL_law_1124 lvL_115 kt_151 rfl rfl (Nat.le_of_ble_eq_true rfl) (Nat.le_of_ble_eq_true rfl) rfl rfl (Nat.le_of_ble_eq_true rfl) rfl rfl ?_
  refine l_eq C 1479 dL_law_1127 (by decide) ?_
  exact k h2 e3
set_option maxHeartbeats 4000000 in
theorem case_24 {κ : Kx Unit} {b L : Nat} {xs : Nat → Int32} (C : Cx κ cL_law RL 4 400 20000 []) (X : Sx κ b L xs) {x3 : Int32} (v1 : vp_in (x3 + 1) L) (v2 : vp_in (x3 + 2) L) (v3 : vp_in (x3 + 3) L) (v4 : vp_in (x3 + 4) L) (v5 : vp_in (x3 + 5) L) {h : CH} (hI : Iv h) (k : ∀ h2, Iv h2 → Imp κ 1479 [(0, .ref b), (1, .ref (kad κ 0)), (2, .ref (kad κ 151)), (3, .int x3)] [] h2 (some ())) : Imp κ 1132 [(0, .ref b), (1, .ref (kad κ 0)), (2, .ref (kad κ 151)), (3, .int x3)] [] h (some ()) := by
  obtain ⟨v, e1, e2⟩ := op_between hI (xs (x3 + 1).toNatClampNeg) (xs (x3 + 2).toNatClampNeg)
  refine r_aload_n C 1133 1 rfl dL_law_1132 rfl ?_
  refine r_aload_n C 1134 0 rfl dL_law_1133 rfl ?_
  refine r_iload_n C 1135 3 rfl dL_law_1134 rfl ?_
  refine r_iconst C 1136 (1) (by decide) dL_law_1135 rfl ?_
  refine r_iadd C 1137 dL_law_1136 rfl ?_
  refine l_sld C X 1138 v1 dL_law_1137 rfl ?_
  refine r_aload_n C 1139 0 rfl dL_law_1138 rfl ?_
  refine r_iload_n C 1140 3 rfl dL_law_1139 rfl ?_
  refine r_iconst C 1141 (2) (by decide) dL_law_1140 rfl ?_
  refine r_iadd C 1142 dL_law_1141 rfl ?_
  refine l_sld C X 1143 v2 dL_law_1142 rfl ?_
  refine l_callP C 1146 [] e1 (ok_f_X11_between (xs (x3 + 1).toNatClampNeg) (xs (x3 + 2).toNatClampNeg) _) dL_law_1143 lvL_116 kt_0 rfl rfl (Nat.le_of_ble_eq_true rfl) (Nat.le_of_ble_eq_true rfl) rfl rfl (Nat.le_of_ble_eq_true rfl) rfl rfl ?_
  refine r_aload_n C 1147 2 rfl dL_law_1146 rfl ?_
  refine r_aload_n C 1148 0 rfl dL_law_1147 rfl ?_
  refine r_iload_n C 1149 3 rfl dL_law_1148 rfl ?_
  refine r_iconst C 1150 (1) (by decide) dL_law_1149 rfl ?_
  refine r_iadd C 1151 dL_law_1150 rfl ?_
  refine l_sld C X 1152 v1 dL_law_1151 rfl ?_
  refine r_aload_n C 1153 0 rfl dL_law_1152 rfl ?_
  refine r_iload_n C 1154 3 rfl dL_law_1153 rfl ?_
  refine r_iconst C 1155 (2) (by decide) dL_law_1154 rfl ?_
  refine r_iadd C 1156 dL_law_1155 rfl ?_
  refine l_sld C X 1157 v2 dL_law_1156 rfl ?_
  refine l_callP C 1160 [.int v] e2 (ok_f_X12_between (xs (x3 + 1).toNatClampNeg) (xs (x3 + 2).toNatClampNeg) _) dL_law_1157 lvL_119 kt_151 rfl rfl (Nat.le_of_ble_eq_true rfl) (Nat.le_of_ble_eq_true rfl) rfl rfl (Nat.le_of_ble_eq_true rfl) rfl rfl ?_
  refine l_eq C 1479 dL_law_1160 (by decide) ?_
  exact k _ hI
set_option maxHeartbeats 4000000 in
theorem case_25 {κ : Kx Unit} {b L : Nat} {xs : Nat → Int32} (C : Cx κ cL_law RL 4 400 20000 []) (X : Sx κ b L xs) {x3 : Int32} (v1 : vp_in (x3 + 1) L) (v2 : vp_in (x3 + 2) L) (v3 : vp_in (x3 + 3) L) (v4 : vp_in (x3 + 4) L) (v5 : vp_in (x3 + 5) L) {h : CH} (hI : Iv h) (k : ∀ h2, Iv h2 → Imp κ 1479 [(0, .ref b), (1, .ref (kad κ 0)), (2, .ref (kad κ 151)), (3, .int x3)] [] h2 (some ())) : Imp κ 1165 [(0, .ref b), (1, .ref (kad κ 0)), (2, .ref (kad κ 151)), (3, .int x3)] [] h (some ()) := by
  obtain ⟨v, h1, h2, e1, e2, e3⟩ := op_looks hI (xs (x3 + 1).toNatClampNeg) (xs (x3 + 2).toNatClampNeg) (xs (x3 + 3).toNatClampNeg)
  refine r_aload_n C 1166 1 rfl dL_law_1165 rfl ?_
  refine r_aload_n C 1167 0 rfl dL_law_1166 rfl ?_
  refine r_iload_n C 1168 3 rfl dL_law_1167 rfl ?_
  refine r_iconst C 1169 (1) (by decide) dL_law_1168 rfl ?_
  refine r_iadd C 1170 dL_law_1169 rfl ?_
  refine l_sld C X 1171 v1 dL_law_1170 rfl ?_
  refine r_aload_n C 1172 0 rfl dL_law_1171 rfl ?_
  refine r_iload_n C 1173 3 rfl dL_law_1172 rfl ?_
  refine r_iconst C 1174 (2) (by decide) dL_law_1173 rfl ?_
  refine r_iadd C 1175 dL_law_1174 rfl ?_
  refine l_sld C X 1176 v2 dL_law_1175 rfl ?_
  refine r_aload_n C 1177 0 rfl dL_law_1176 rfl ?_
  refine r_iload_n C 1178 3 rfl dL_law_1177 rfl ?_
  refine r_iconst C 1179 (3) (by decide) dL_law_1178 rfl ?_
  refine r_iadd C 1180 dL_law_1179 rfl ?_
  refine l_sld C X 1181 v3 dL_law_1180 rfl ?_
  refine l_callI C 1184 [] e1 (ok_f_X11_looks (xs (x3 + 1).toNatClampNeg) (xs (x3 + 2).toNatClampNeg) (xs (x3 + 3).toNatClampNeg) _) dL_law_1181 lvL_120 kt_0 rfl rfl (Nat.le_of_ble_eq_true rfl) (Nat.le_of_ble_eq_true rfl) rfl rfl (Nat.le_of_ble_eq_true rfl) rfl rfl ?_
  refine r_aload_n C 1185 2 rfl dL_law_1184 rfl ?_
  refine r_aload_n C 1186 0 rfl dL_law_1185 rfl ?_
  refine r_iload_n C 1187 3 rfl dL_law_1186 rfl ?_
  refine r_iconst C 1188 (1) (by decide) dL_law_1187 rfl ?_
  refine r_iadd C 1189 dL_law_1188 rfl ?_
  refine l_sld C X 1190 v1 dL_law_1189 rfl ?_
  refine r_aload_n C 1191 0 rfl dL_law_1190 rfl ?_
  refine r_iload_n C 1192 3 rfl dL_law_1191 rfl ?_
  refine r_iconst C 1193 (2) (by decide) dL_law_1192 rfl ?_
  refine r_iadd C 1194 dL_law_1193 rfl ?_
  refine l_sld C X 1195 v2 dL_law_1194 rfl ?_
  refine r_aload_n C 1196 0 rfl dL_law_1195 rfl ?_
  refine r_iload_n C 1197 3 rfl dL_law_1196 rfl ?_
  refine r_iconst C 1198 (3) (by decide) dL_law_1197 rfl ?_
  refine r_iadd C 1199 dL_law_1198 rfl ?_
  refine l_sld C X 1200 v3 dL_law_1199 rfl ?_
  refine l_callI C 1203 [.int v] e2 (ok_f_X12_looks (xs (x3 + 1).toNatClampNeg) (xs (x3 + 2).toNatClampNeg) (xs (x3 + 3).toNatClampNeg) _) dL_law_1200 lvL_123 kt_151 rfl rfl (Nat.le_of_ble_eq_true rfl) (Nat.le_of_ble_eq_true rfl) rfl rfl (Nat.le_of_ble_eq_true rfl) rfl rfl ?_
  refine l_eq C 1479 dL_law_1203 (by decide) ?_
  exact k h2 e3
set_option maxHeartbeats 4000000 in
theorem case_26 {κ : Kx Unit} {b L : Nat} {xs : Nat → Int32} (C : Cx κ cL_law RL 4 400 20000 []) (X : Sx κ b L xs) {x3 : Int32} (v1 : vp_in (x3 + 1) L) (v2 : vp_in (x3 + 2) L) (v3 : vp_in (x3 + 3) L) (v4 : vp_in (x3 + 4) L) (v5 : vp_in (x3 + 5) L) {h : CH} (hI : Iv h) (k : ∀ h2, Iv h2 → Imp κ 1479 [(0, .ref b), (1, .ref (kad κ 0)), (2, .ref (kad κ 151)), (3, .int x3)] [] h2 (some ())) : Imp κ 1208 [(0, .ref b), (1, .ref (kad κ 0)), (2, .ref (kad κ 151)), (3, .int x3)] [] h (some ()) := by
  obtain ⟨v, h1, h2, e1, e2, e3⟩ := op_cost hI (xs (x3 + 1).toNatClampNeg) (xs (x3 + 2).toNatClampNeg) (xs (x3 + 3).toNatClampNeg) (xs (x3 + 4).toNatClampNeg) (xs (x3 + 5).toNatClampNeg)
  refine r_aload_n C 1209 1 rfl dL_law_1208 rfl ?_
  refine r_aload_n C 1210 0 rfl dL_law_1209 rfl ?_
  refine r_iload_n C 1211 3 rfl dL_law_1210 rfl ?_
  refine r_iconst C 1212 (1) (by decide) dL_law_1211 rfl ?_
  refine r_iadd C 1213 dL_law_1212 rfl ?_
  refine l_sld C X 1214 v1 dL_law_1213 rfl ?_
  refine r_aload_n C 1215 0 rfl dL_law_1214 rfl ?_
  refine r_iload_n C 1216 3 rfl dL_law_1215 rfl ?_
  refine r_iconst C 1217 (2) (by decide) dL_law_1216 rfl ?_
  refine r_iadd C 1218 dL_law_1217 rfl ?_
  refine l_sld C X 1219 v2 dL_law_1218 rfl ?_
  refine r_aload_n C 1220 0 rfl dL_law_1219 rfl ?_
  refine r_iload_n C 1221 3 rfl dL_law_1220 rfl ?_
  refine r_iconst C 1222 (3) (by decide) dL_law_1221 rfl ?_
  refine r_iadd C 1223 dL_law_1222 rfl ?_
  refine l_sld C X 1224 v3 dL_law_1223 rfl ?_
  refine r_aload_n C 1225 0 rfl dL_law_1224 rfl ?_
  refine r_iload_n C 1226 3 rfl dL_law_1225 rfl ?_
  refine r_iconst C 1227 (4) (by decide) dL_law_1226 rfl ?_
  refine r_iadd C 1228 dL_law_1227 rfl ?_
  refine l_sld C X 1229 v4 dL_law_1228 rfl ?_
  refine r_aload_n C 1230 0 rfl dL_law_1229 rfl ?_
  refine r_iload_n C 1231 3 rfl dL_law_1230 rfl ?_
  refine r_iconst C 1232 (5) (by decide) dL_law_1231 rfl ?_
  refine r_iadd C 1233 dL_law_1232 rfl ?_
  refine l_sld C X 1234 v5 dL_law_1233 rfl ?_
  refine l_callI C 1237 [] e1 (ok_f_X11_cost (xs (x3 + 1).toNatClampNeg) (xs (x3 + 2).toNatClampNeg) (xs (x3 + 3).toNatClampNeg) (xs (x3 + 4).toNatClampNeg) (xs (x3 + 5).toNatClampNeg) _) dL_law_1234 lvL_124 kt_0 rfl rfl (Nat.le_of_ble_eq_true rfl) (Nat.le_of_ble_eq_true rfl) rfl rfl (Nat.le_of_ble_eq_true rfl) rfl rfl ?_
  refine r_aload_n C 1238 2 rfl dL_law_1237 rfl ?_
  refine r_aload_n C 1239 0 rfl dL_law_1238 rfl ?_
  refine r_iload_n C 1240 3 rfl dL_law_1239 rfl ?_
  refine r_iconst C 1241 (1) (by decide) dL_law_1240 rfl ?_
  refine r_iadd C 1242 dL_law_1241 rfl ?_
  refine l_sld C X 1243 v1 dL_law_1242 rfl ?_
  refine r_aload_n C 1244 0 rfl dL_law_1243 rfl ?_
  refine r_iload_n C 1245 3 rfl dL_law_1244 rfl ?_
  refine r_iconst C 1246 (2) (by decide) dL_law_1245 rfl ?_
  refine r_iadd C 1247 dL_law_1246 rfl ?_
  refine l_sld C X 1248 v2 dL_law_1247 rfl ?_
  refine r_aload_n C 1249 0 rfl dL_law_1248 rfl ?_
  refine r_iload_n C 1250 3 rfl dL_law_1249 rfl ?_
  refine r_iconst C 1251 (3) (by decide) dL_law_1250 rfl ?_
  refine r_iadd C 1252 dL_law_1251 rfl ?_
  refine l_sld C X 1253 v3 dL_law_1252 rfl ?_
  refine r_aload_n C 1254 0 rfl dL_law_1253 rfl ?_
  refine r_iload_n C 1255 3 rfl dL_law_1254 rfl ?_
  refine r_iconst C 1256 (4) (by decide) dL_law_1255 rfl ?_
  refine r_iadd C 1257 dL_law_1256 rfl ?_
  refine l_sld C X 1258 v4 dL_law_1257 rfl ?_
  refine r_aload_n C 1259 0 rfl dL_law_1258 rfl ?_
  refine r_iload_n C 1260 3 rfl dL_law_1259 rfl ?_
  refine r_iconst C 1261 (5) (by decide) dL_law_1260 rfl ?_
  refine r_iadd C 1262 dL_law_1261 rfl ?_
  refine l_sld C X 1263 v5 dL_law_1262 rfl ?_
  refine l_callI C 1266 [.int v] e2 (ok_f_X12_cost (xs (x3 + 1).toNatClampNeg) (xs (x3 + 2).toNatClampNeg) (xs (x3 + 3).toNatClampNeg) (xs (x3 + 4).toNatClampNeg) (xs (x3 + 5).toNatClampNeg) _) dL_law_1263 lvL_127 kt_151 rfl rfl (Nat.le_of_ble_eq_true rfl) (Nat.le_of_ble_eq_true rfl) rfl rfl (Nat.le_of_ble_eq_true rfl) rfl rfl ?_
  refine l_eq C 1479 dL_law_1266 (by decide) ?_
  exact k h2 e3
set_option maxHeartbeats 4000000 in
theorem case_27 {κ : Kx Unit} {b L : Nat} {xs : Nat → Int32} (C : Cx κ cL_law RL 4 400 20000 []) (X : Sx κ b L xs) {x3 : Int32} (v1 : vp_in (x3 + 1) L) (v2 : vp_in (x3 + 2) L) (v3 : vp_in (x3 + 3) L) (v4 : vp_in (x3 + 4) L) (v5 : vp_in (x3 + 5) L) {h : CH} (hI : Iv h) (k : ∀ h2, Iv h2 → Imp κ 1479 [(0, .ref b), (1, .ref (kad κ 0)), (2, .ref (kad κ 151)), (3, .int x3)] [] h2 (some ())) : Imp κ 1271 [(0, .ref b), (1, .ref (kad κ 0)), (2, .ref (kad κ 151)), (3, .int x3)] [] h (some ()) := by
  obtain ⟨v, h1, h2, e1, e2, e3⟩ := op_bestBar hI (xs (x3 + 1).toNatClampNeg) (xs (x3 + 2).toNatClampNeg) (xs (x3 + 3).toNatClampNeg) (xs (x3 + 4).toNatClampNeg)
  refine r_aload_n C 1272 1 rfl dL_law_1271 rfl ?_
  refine r_aload_n C 1273 0 rfl dL_law_1272 rfl ?_
  refine r_iload_n C 1274 3 rfl dL_law_1273 rfl ?_
  refine r_iconst C 1275 (1) (by decide) dL_law_1274 rfl ?_
  refine r_iadd C 1276 dL_law_1275 rfl ?_
  refine l_sld C X 1277 v1 dL_law_1276 rfl ?_
  refine r_aload_n C 1278 0 rfl dL_law_1277 rfl ?_
  refine r_iload_n C 1279 3 rfl dL_law_1278 rfl ?_
  refine r_iconst C 1280 (2) (by decide) dL_law_1279 rfl ?_
  refine r_iadd C 1281 dL_law_1280 rfl ?_
  refine l_sld C X 1282 v2 dL_law_1281 rfl ?_
  refine r_aload_n C 1283 0 rfl dL_law_1282 rfl ?_
  refine r_iload_n C 1284 3 rfl dL_law_1283 rfl ?_
  refine r_iconst C 1285 (3) (by decide) dL_law_1284 rfl ?_
  refine r_iadd C 1286 dL_law_1285 rfl ?_
  refine l_sld C X 1287 v3 dL_law_1286 rfl ?_
  refine r_aload_n C 1288 0 rfl dL_law_1287 rfl ?_
  refine r_iload_n C 1289 3 rfl dL_law_1288 rfl ?_
  refine r_iconst C 1290 (4) (by decide) dL_law_1289 rfl ?_
  refine r_iadd C 1291 dL_law_1290 rfl ?_
  refine l_sld C X 1292 v4 dL_law_1291 rfl ?_
  refine l_callI C 1295 [] e1 (ok_f_X11_bestBar (xs (x3 + 1).toNatClampNeg) (xs (x3 + 2).toNatClampNeg) (xs (x3 + 3).toNatClampNeg) (xs (x3 + 4).toNatClampNeg) _) dL_law_1292 lvL_128 kt_0 rfl rfl (Nat.le_of_ble_eq_true rfl) (Nat.le_of_ble_eq_true rfl) rfl rfl (Nat.le_of_ble_eq_true rfl) rfl rfl ?_
  refine r_aload_n C 1296 2 rfl dL_law_1295 rfl ?_
  refine r_aload_n C 1297 0 rfl dL_law_1296 rfl ?_
  refine r_iload_n C 1298 3 rfl dL_law_1297 rfl ?_
  refine r_iconst C 1299 (1) (by decide) dL_law_1298 rfl ?_
  refine r_iadd C 1300 dL_law_1299 rfl ?_
  refine l_sld C X 1301 v1 dL_law_1300 rfl ?_
  refine r_aload_n C 1302 0 rfl dL_law_1301 rfl ?_
  refine r_iload_n C 1303 3 rfl dL_law_1302 rfl ?_
  refine r_iconst C 1304 (2) (by decide) dL_law_1303 rfl ?_
  refine r_iadd C 1305 dL_law_1304 rfl ?_
  refine l_sld C X 1306 v2 dL_law_1305 rfl ?_
  refine r_aload_n C 1307 0 rfl dL_law_1306 rfl ?_
  refine r_iload_n C 1308 3 rfl dL_law_1307 rfl ?_
  refine r_iconst C 1309 (3) (by decide) dL_law_1308 rfl ?_
  refine r_iadd C 1310 dL_law_1309 rfl ?_
  refine l_sld C X 1311 v3 dL_law_1310 rfl ?_
  refine r_aload_n C 1312 0 rfl dL_law_1311 rfl ?_
  refine r_iload_n C 1313 3 rfl dL_law_1312 rfl ?_
  refine r_iconst C 1314 (4) (by decide) dL_law_1313 rfl ?_
  refine r_iadd C 1315 dL_law_1314 rfl ?_
  refine l_sld C X 1316 v4 dL_law_1315 rfl ?_
  refine l_callI C 1319 [.int v] e2 (ok_f_X12_bestBar (xs (x3 + 1).toNatClampNeg) (xs (x3 + 2).toNatClampNeg) (xs (x3 + 3).toNatClampNeg) (xs (x3 + 4).toNatClampNeg) _) dL_law_1316 lvL_131 kt_151 rfl rfl (Nat.le_of_ble_eq_true rfl) (Nat.le_of_ble_eq_true rfl) rfl rfl (Nat.le_of_ble_eq_true rfl) rfl rfl ?_
  refine l_eq C 1479 dL_law_1319 (by decide) ?_
  exact k h2 e3
set_option maxHeartbeats 4000000 in
theorem case_28 {κ : Kx Unit} {b L : Nat} {xs : Nat → Int32} (C : Cx κ cL_law RL 4 400 20000 []) (X : Sx κ b L xs) {x3 : Int32} (v1 : vp_in (x3 + 1) L) (v2 : vp_in (x3 + 2) L) (v3 : vp_in (x3 + 3) L) (v4 : vp_in (x3 + 4) L) (v5 : vp_in (x3 + 5) L) {h : CH} (hI : Iv h) (k : ∀ h2, Iv h2 → Imp κ 1479 [(0, .ref b), (1, .ref (kad κ 0)), (2, .ref (kad κ 151)), (3, .int x3)] [] h2 (some ())) : Imp κ 1324 [(0, .ref b), (1, .ref (kad κ 0)), (2, .ref (kad κ 151)), (3, .int x3)] [] h (some ()) := by
  obtain ⟨v, h1, h2, e1, e2, e3⟩ := op_fair hI (xs (x3 + 1).toNatClampNeg) (xs (x3 + 2).toNatClampNeg) (xs (x3 + 3).toNatClampNeg) (xs (x3 + 4).toNatClampNeg)
  refine r_aload_n C 1325 1 rfl dL_law_1324 rfl ?_
  refine r_aload_n C 1326 0 rfl dL_law_1325 rfl ?_
  refine r_iload_n C 1327 3 rfl dL_law_1326 rfl ?_
  refine r_iconst C 1328 (1) (by decide) dL_law_1327 rfl ?_
  refine r_iadd C 1329 dL_law_1328 rfl ?_
  refine l_sld C X 1330 v1 dL_law_1329 rfl ?_
  refine r_aload_n C 1331 0 rfl dL_law_1330 rfl ?_
  refine r_iload_n C 1332 3 rfl dL_law_1331 rfl ?_
  refine r_iconst C 1333 (2) (by decide) dL_law_1332 rfl ?_
  refine r_iadd C 1334 dL_law_1333 rfl ?_
  refine l_sld C X 1335 v2 dL_law_1334 rfl ?_
  refine r_aload_n C 1336 0 rfl dL_law_1335 rfl ?_
  refine r_iload_n C 1337 3 rfl dL_law_1336 rfl ?_
  refine r_iconst C 1338 (3) (by decide) dL_law_1337 rfl ?_
  refine r_iadd C 1339 dL_law_1338 rfl ?_
  refine l_sld C X 1340 v3 dL_law_1339 rfl ?_
  refine r_aload_n C 1341 0 rfl dL_law_1340 rfl ?_
  refine r_iload_n C 1342 3 rfl dL_law_1341 rfl ?_
  refine r_iconst C 1343 (4) (by decide) dL_law_1342 rfl ?_
  refine r_iadd C 1344 dL_law_1343 rfl ?_
  refine l_sld C X 1345 v4 dL_law_1344 rfl ?_
  refine l_callI C 1348 [] e1 (ok_f_X11_fair (xs (x3 + 1).toNatClampNeg) (xs (x3 + 2).toNatClampNeg) (xs (x3 + 3).toNatClampNeg) (xs (x3 + 4).toNatClampNeg) _) dL_law_1345 lvL_132 kt_0 rfl rfl (Nat.le_of_ble_eq_true rfl) (Nat.le_of_ble_eq_true rfl) rfl rfl (Nat.le_of_ble_eq_true rfl) rfl rfl ?_
  refine r_aload_n C 1349 2 rfl dL_law_1348 rfl ?_
  refine r_aload_n C 1350 0 rfl dL_law_1349 rfl ?_
  refine r_iload_n C 1351 3 rfl dL_law_1350 rfl ?_
  refine r_iconst C 1352 (1) (by decide) dL_law_1351 rfl ?_
  refine r_iadd C 1353 dL_law_1352 rfl ?_
  refine l_sld C X 1354 v1 dL_law_1353 rfl ?_
  refine r_aload_n C 1355 0 rfl dL_law_1354 rfl ?_
  refine r_iload_n C 1356 3 rfl dL_law_1355 rfl ?_
  refine r_iconst C 1357 (2) (by decide) dL_law_1356 rfl ?_
  refine r_iadd C 1358 dL_law_1357 rfl ?_
  refine l_sld C X 1359 v2 dL_law_1358 rfl ?_
  refine r_aload_n C 1360 0 rfl dL_law_1359 rfl ?_
  refine r_iload_n C 1361 3 rfl dL_law_1360 rfl ?_
  refine r_iconst C 1362 (3) (by decide) dL_law_1361 rfl ?_
  refine r_iadd C 1363 dL_law_1362 rfl ?_
  refine l_sld C X 1364 v3 dL_law_1363 rfl ?_
  refine r_aload_n C 1365 0 rfl dL_law_1364 rfl ?_
  refine r_iload_n C 1366 3 rfl dL_law_1365 rfl ?_
  refine r_iconst C 1367 (4) (by decide) dL_law_1366 rfl ?_
  refine r_iadd C 1368 dL_law_1367 rfl ?_
  refine l_sld C X 1369 v4 dL_law_1368 rfl ?_
  refine l_callI C 1372 [.int v] e2 (ok_f_X12_fair (xs (x3 + 1).toNatClampNeg) (xs (x3 + 2).toNatClampNeg) (xs (x3 + 3).toNatClampNeg) (xs (x3 + 4).toNatClampNeg) _) dL_law_1369 lvL_135 kt_151 rfl rfl (Nat.le_of_ble_eq_true rfl) (Nat.le_of_ble_eq_true rfl) rfl rfl (Nat.le_of_ble_eq_true rfl) rfl rfl ?_
  refine l_eq C 1479 dL_law_1372 (by decide) ?_
  exact k h2 e3
set_option maxHeartbeats 4000000 in
theorem case_29 {κ : Kx Unit} {b L : Nat} {xs : Nat → Int32} (C : Cx κ cL_law RL 4 400 20000 []) (X : Sx κ b L xs) {x3 : Int32} (v1 : vp_in (x3 + 1) L) (v2 : vp_in (x3 + 2) L) (v3 : vp_in (x3 + 3) L) (v4 : vp_in (x3 + 4) L) (v5 : vp_in (x3 + 5) L) {h : CH} (hI : Iv h) (k : ∀ h2, Iv h2 → Imp κ 1479 [(0, .ref b), (1, .ref (kad κ 0)), (2, .ref (kad κ 151)), (3, .int x3)] [] h2 (some ())) : Imp κ 1377 [(0, .ref b), (1, .ref (kad κ 0)), (2, .ref (kad κ 151)), (3, .int x3)] [] h (some ()) := by
  obtain ⟨v, e1, e2⟩ := op_measure hI (xs (x3 + 1).toNatClampNeg) (xs (x3 + 2).toNatClampNeg)
  refine r_aload_n C 1378 1 rfl dL_law_1377 rfl ?_
  refine r_aload_n C 1379 0 rfl dL_law_1378 rfl ?_
  refine r_iload_n C 1380 3 rfl dL_law_1379 rfl ?_
  refine r_iconst C 1381 (1) (by decide) dL_law_1380 rfl ?_
  refine r_iadd C 1382 dL_law_1381 rfl ?_
  refine l_sld C X 1383 v1 dL_law_1382 rfl ?_
  refine r_aload_n C 1384 0 rfl dL_law_1383 rfl ?_
  refine r_iload_n C 1385 3 rfl dL_law_1384 rfl ?_
  refine r_iconst C 1386 (2) (by decide) dL_law_1385 rfl ?_
  refine r_iadd C 1387 dL_law_1386 rfl ?_
  refine l_sld C X 1388 v2 dL_law_1387 rfl ?_
  refine l_callP C 1391 [] e1 (ok_f_X11_measure (xs (x3 + 1).toNatClampNeg) (xs (x3 + 2).toNatClampNeg) _) dL_law_1388 lvL_136 kt_0 rfl rfl (Nat.le_of_ble_eq_true rfl) (Nat.le_of_ble_eq_true rfl) rfl rfl (Nat.le_of_ble_eq_true rfl) rfl rfl ?_
  refine r_aload_n C 1392 2 rfl dL_law_1391 rfl ?_
  refine r_aload_n C 1393 0 rfl dL_law_1392 rfl ?_
  refine r_iload_n C 1394 3 rfl dL_law_1393 rfl ?_
  refine r_iconst C 1395 (1) (by decide) dL_law_1394 rfl ?_
  refine r_iadd C 1396 dL_law_1395 rfl ?_
  refine l_sld C X 1397 v1 dL_law_1396 rfl ?_
  refine r_aload_n C 1398 0 rfl dL_law_1397 rfl ?_
  refine r_iload_n C 1399 3 rfl dL_law_1398 rfl ?_
  refine r_iconst C 1400 (2) (by decide) dL_law_1399 rfl ?_
  refine r_iadd C 1401 dL_law_1400 rfl ?_
  refine l_sld C X 1402 v2 dL_law_1401 rfl ?_
  refine l_callP C 1405 [.int v] e2 (ok_f_X12_measure (xs (x3 + 1).toNatClampNeg) (xs (x3 + 2).toNatClampNeg) _) dL_law_1402 lvL_139 kt_151 rfl rfl (Nat.le_of_ble_eq_true rfl) (Nat.le_of_ble_eq_true rfl) rfl rfl (Nat.le_of_ble_eq_true rfl) rfl rfl ?_
  refine l_eq C 1479 dL_law_1405 (by decide) ?_
  exact k _ hI
set_option maxHeartbeats 4000000 in
theorem case_30 {κ : Kx Unit} {b L : Nat} {xs : Nat → Int32} (C : Cx κ cL_law RL 4 400 20000 []) (X : Sx κ b L xs) {x3 : Int32} (v1 : vp_in (x3 + 1) L) (v2 : vp_in (x3 + 2) L) (v3 : vp_in (x3 + 3) L) (v4 : vp_in (x3 + 4) L) (v5 : vp_in (x3 + 5) L) {h : CH} (hI : Iv h) (k : ∀ h2, Iv h2 → Imp κ 1479 [(0, .ref b), (1, .ref (kad κ 0)), (2, .ref (kad κ 151)), (3, .int x3)] [] h2 (some ())) : Imp κ 1410 [(0, .ref b), (1, .ref (kad κ 0)), (2, .ref (kad κ 151)), (3, .int x3)] [] h (some ()) := by
  obtain ⟨v, h1, h2, e1, e2, e3⟩ := op_image hI (xs (x3 + 1).toNatClampNeg)
  refine r_aload_n C 1411 1 rfl dL_law_1410 rfl ?_
  refine r_aload_n C 1412 0 rfl dL_law_1411 rfl ?_
  refine r_iload_n C 1413 3 rfl dL_law_1412 rfl ?_
  refine r_iconst C 1414 (1) (by decide) dL_law_1413 rfl ?_
  refine r_iadd C 1415 dL_law_1414 rfl ?_
  refine l_sld C X 1416 v1 dL_law_1415 rfl ?_
  refine l_callI C 1419 [] e1 (ok_f_X11_image (xs (x3 + 1).toNatClampNeg) _) dL_law_1416 lvL_140 kt_0 rfl rfl (Nat.le_of_ble_eq_true rfl) (Nat.le_of_ble_eq_true rfl) rfl rfl (Nat.le_of_ble_eq_true rfl) rfl rfl ?_
  refine r_aload_n C 1420 2 rfl dL_law_1419 rfl ?_
  refine r_aload_n C 1421 0 rfl dL_law_1420 rfl ?_
  refine r_iload_n C 1422 3 rfl dL_law_1421 rfl ?_
  refine r_iconst C 1423 (1) (by decide) dL_law_1422 rfl ?_
  refine r_iadd C 1424 dL_law_1423 rfl ?_
  refine l_sld C X 1425 v1 dL_law_1424 rfl ?_
  refine l_callI C 1428 [.int v] e2 (ok_f_X12_image (xs (x3 + 1).toNatClampNeg) _) dL_law_1425 lvL_143 kt_151 rfl rfl (Nat.le_of_ble_eq_true rfl) (Nat.le_of_ble_eq_true rfl) rfl rfl (Nat.le_of_ble_eq_true rfl) rfl rfl ?_
  refine l_eq C 1479 dL_law_1428 (by decide) ?_
  exact k h2 e3
set_option maxHeartbeats 4000000 in
theorem case_31 {κ : Kx Unit} {b L : Nat} {xs : Nat → Int32} (C : Cx κ cL_law RL 4 400 20000 []) (X : Sx κ b L xs) {x3 : Int32} (v1 : vp_in (x3 + 1) L) (v2 : vp_in (x3 + 2) L) (v3 : vp_in (x3 + 3) L) (v4 : vp_in (x3 + 4) L) (v5 : vp_in (x3 + 5) L) {h : CH} (hI : Iv h) (k : ∀ h2, Iv h2 → Imp κ 1479 [(0, .ref b), (1, .ref (kad κ 0)), (2, .ref (kad κ 151)), (3, .int x3)] [] h2 (some ())) : Imp κ 1433 [(0, .ref b), (1, .ref (kad κ 0)), (2, .ref (kad κ 151)), (3, .int x3)] [] h (some ()) := by
  obtain ⟨v, h1, h2, e1, e2, e3⟩ := op_back hI (xs (x3 + 1).toNatClampNeg)
  refine r_aload_n C 1434 1 rfl dL_law_1433 rfl ?_
  refine r_aload_n C 1435 0 rfl dL_law_1434 rfl ?_
  refine r_iload_n C 1436 3 rfl dL_law_1435 rfl ?_
  refine r_iconst C 1437 (1) (by decide) dL_law_1436 rfl ?_
  refine r_iadd C 1438 dL_law_1437 rfl ?_
  refine l_sld C X 1439 v1 dL_law_1438 rfl ?_
  refine l_callI C 1442 [] e1 (ok_f_X11_back (xs (x3 + 1).toNatClampNeg) _) dL_law_1439 lvL_144 kt_0 rfl rfl (Nat.le_of_ble_eq_true rfl) (Nat.le_of_ble_eq_true rfl) rfl rfl (Nat.le_of_ble_eq_true rfl) rfl rfl ?_
  refine r_aload_n C 1443 2 rfl dL_law_1442 rfl ?_
  refine r_aload_n C 1444 0 rfl dL_law_1443 rfl ?_
  refine r_iload_n C 1445 3 rfl dL_law_1444 rfl ?_
  refine r_iconst C 1446 (1) (by decide) dL_law_1445 rfl ?_
  refine r_iadd C 1447 dL_law_1446 rfl ?_
  refine l_sld C X 1448 v1 dL_law_1447 rfl ?_
  refine l_callI C 1451 [.int v] e2 (ok_f_X12_back (xs (x3 + 1).toNatClampNeg) _) dL_law_1448 lvL_147 kt_151 rfl rfl (Nat.le_of_ble_eq_true rfl) (Nat.le_of_ble_eq_true rfl) rfl rfl (Nat.le_of_ble_eq_true rfl) rfl rfl ?_
  refine l_eq C 1479 dL_law_1451 (by decide) ?_
  exact k h2 e3
set_option maxHeartbeats 4000000 in
theorem case_32 {κ : Kx Unit} {b L : Nat} {xs : Nat → Int32} (C : Cx κ cL_law RL 4 400 20000 []) (X : Sx κ b L xs) {x3 : Int32} (v1 : vp_in (x3 + 1) L) (v2 : vp_in (x3 + 2) L) (v3 : vp_in (x3 + 3) L) (v4 : vp_in (x3 + 4) L) (v5 : vp_in (x3 + 5) L) {h : CH} (hI : Iv h) (k : ∀ h2, Iv h2 → Imp κ 1479 [(0, .ref b), (1, .ref (kad κ 0)), (2, .ref (kad κ 151)), (3, .int x3)] [] h2 (some ())) : Imp κ 1456 [(0, .ref b), (1, .ref (kad κ 0)), (2, .ref (kad κ 151)), (3, .int x3)] [] h (some ()) := by
  obtain ⟨v, e1, e2⟩ := op_about hI (xs (x3 + 1).toNatClampNeg)
  refine r_aload_n C 1457 1 rfl dL_law_1456 rfl ?_
  refine r_aload_n C 1458 0 rfl dL_law_1457 rfl ?_
  refine r_iload_n C 1459 3 rfl dL_law_1458 rfl ?_
  refine r_iconst C 1460 (1) (by decide) dL_law_1459 rfl ?_
  refine r_iadd C 1461 dL_law_1460 rfl ?_
  refine l_sld C X 1462 v1 dL_law_1461 rfl ?_
  refine l_callP C 1465 [] e1 (ok_f_X11_about (xs (x3 + 1).toNatClampNeg) _) dL_law_1462 lvL_148 kt_0 rfl rfl (Nat.le_of_ble_eq_true rfl) (Nat.le_of_ble_eq_true rfl) rfl rfl (Nat.le_of_ble_eq_true rfl) rfl rfl ?_
  refine r_aload_n C 1466 2 rfl dL_law_1465 rfl ?_
  refine r_aload_n C 1467 0 rfl dL_law_1466 rfl ?_
  refine r_iload_n C 1468 3 rfl dL_law_1467 rfl ?_
  refine r_iconst C 1469 (1) (by decide) dL_law_1468 rfl ?_
  refine r_iadd C 1470 dL_law_1469 rfl ?_
  refine l_sld C X 1471 v1 dL_law_1470 rfl ?_
  refine l_callP C 1474 [.int v] e2 (ok_f_X12_about (xs (x3 + 1).toNatClampNeg) _) dL_law_1471 lvL_151 kt_151 rfl rfl (Nat.le_of_ble_eq_true rfl) (Nat.le_of_ble_eq_true rfl) rfl rfl (Nat.le_of_ble_eq_true rfl) rfl rfl ?_
  refine l_eq C 1479 dL_law_1474 (by decide) ?_
  exact k _ hI
