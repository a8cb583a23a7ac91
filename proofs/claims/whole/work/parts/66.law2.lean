section LAWC
variable {w : Wd} {nm : String} {ce sl i : Nat} {M : Mem}
theorem rl_b3 {x : Int32} {pc t g : Nat} {off off2 : Int} {lv : List (Nat × Value)} {st : List Value} (hd : decode cL_law pc = .ok (.ifCond .eq off, 3)) (ht : (pc : Int) + off = (t : Int)) (h1 : decode cL_law (pc + 3) = .ok (.iconst 1, 1)) (h2 : decode cL_law (pc + 3 + 1) = .ok (.goto off2, 3)) (hg : ((pc + 3 + 1 : Nat) : Int) + off2 = (g : Int)) (h3 : decode cL_law t = .ok (.iconst 0, 1)) (htg : t + 1 = g) (kk : RS w room_1 (kL nm) ce sl g lv (.int (b2i (¬ x = 0)) :: st) M (LF w)) : RS w room_1 (kL nm) ce sl pc lv (.int x :: st) M (LF w) := by
  refine rj_if_eq hd ht (fun hc => ?_) (fun hc => ?_)
  · refine rj_iconst (v := 0) h3 (by decide) ?_
    rw [htg]
    rw [b2i_f (fun z => z hc)] at kk
    exact kk
  · refine rj_iconst (v := 1) h1 (by decide) ?_
    refine rj_goto (tgt := g) h2 hg ?_
    rw [b2i_t hc] at kk
    exact kk
theorem lc_0 (hL : wL w ≤ 3072) (hi : i + 6 ≤ wL w) (hf : ce ≤ 600000 ∧ sl ≤ 7302250) (hI : INV M) (kk : ∀ M', INV M' → RS w room_1 (kL nm) ce sl 1538 [(0, .ref 1000), (1, .ref 0), (2, .ref 59), (3, .int (nI i))] [] M' (LF w)) : RS w room_1 (kL nm) ce sl 216 [(0, .ref 1000), (1, .ref 0), (2, .ref 59), (3, .int (nI i))] [] M (LF w) := by
  refine rj_aload_n dL_law_216 1 rfl rfl ?_
  refine rj_aload_n dL_law_217 0 rfl rfl ?_
  refine rj_iload_n dL_law_218 3 rfl rfl ?_
  refine rj_iconst (v := 1) dL_law_219 (by decide) ?_
  refine rj_iadd dL_law_220 ?_
  refine rl_arg (k := 1) dL_law_221 (nI_add i 1) (by omega) hL ?_
  refine rj_aload_n dL_law_222 0 rfl rfl ?_
  refine rj_iload_n dL_law_223 3 rfl rfl ?_
  refine rj_iconst (v := 2) dL_law_224 (by decide) ?_
  refine rj_iadd dL_law_225 ?_
  refine rl_arg (k := 2) dL_law_226 (nI_add i 2) (by omega) hL ?_
  refine rl_call1 (kc := kX10_cellOf) (kr := kX11_cellOf) (As := [.int (wS w (i + 1)), .int (wS w (i + 2))]) ml_RL_13 mvX10_cellOf dL_law_227 rfl rfl rfl (by decide) hf (p_cellOf hI) (fun x M1 hq => ?_)
  refine rj_aload_n dL_law_230 2 rfl rfl ?_
  refine rj_aload_n dL_law_231 0 rfl rfl ?_
  refine rj_iload_n dL_law_232 3 rfl rfl ?_
  refine rj_iconst (v := 1) dL_law_233 (by decide) ?_
  refine rj_iadd dL_law_234 ?_
  refine rl_arg (k := 1) dL_law_235 (nI_add i 1) (by omega) hL ?_
  refine rj_aload_n dL_law_236 0 rfl rfl ?_
  refine rj_iload_n dL_law_237 3 rfl rfl ?_
  refine rj_iconst (v := 2) dL_law_238 (by decide) ?_
  refine rj_iadd dL_law_239 ?_
  refine rl_arg (k := 2) dL_law_240 (nI_add i 2) (by omega) hL ?_
  refine rl_call2 (kr := kX11_cellOf) (As := [.int (wS w (i + 1)), .int (wS w (i + 2))]) ml_RL_17 mvX11_cellOf dL_law_241 rfl rfl rfl (by decide) hf hq (fun M2 hI2 => ?_)
  exact rj_icmp_eq (tgt := 1538) dL_law_244 (by decide) (fun _ => kk M2 hI2) (fun hc => absurd rfl hc)
theorem lc_1 (hL : wL w ≤ 3072) (hi : i + 6 ≤ wL w) (hf : ce ≤ 600000 ∧ sl ≤ 7302250) (hI : INV M) (kk : ∀ M', INV M' → RS w room_1 (kL nm) ce sl 1538 [(0, .ref 1000), (1, .ref 0), (2, .ref 59), (3, .int (nI i))] [] M' (LF w)) : RS w room_1 (kL nm) ce sl 249 [(0, .ref 1000), (1, .ref 0), (2, .ref 59), (3, .int (nI i))] [] M (LF w) := by
  refine rj_aload_n dL_law_249 1 rfl rfl ?_
  refine rj_aload_n dL_law_250 0 rfl rfl ?_
  refine rj_iload_n dL_law_251 3 rfl rfl ?_
  refine rj_iconst (v := 1) dL_law_252 (by decide) ?_
  refine rj_iadd dL_law_253 ?_
  refine rl_arg (k := 1) dL_law_254 (nI_add i 1) (by omega) hL ?_
  refine rj_aload_n dL_law_255 0 rfl rfl ?_
  refine rj_iload_n dL_law_256 3 rfl rfl ?_
  refine rj_iconst (v := 2) dL_law_257 (by decide) ?_
  refine rj_iadd dL_law_258 ?_
  refine rl_arg (k := 2) dL_law_259 (nI_add i 2) (by omega) hL ?_
  refine rl_call1 (kc := kX10_dirt) (kr := kX11_dirt) (As := [.int (wS w (i + 1)), .int (wS w (i + 2))]) ml_RL_18 mvX10_dirt dL_law_260 rfl rfl rfl (by decide) hf (p_dirt hI) (fun x M1 hq => ?_)
  refine rj_aload_n dL_law_263 2 rfl rfl ?_
  refine rj_aload_n dL_law_264 0 rfl rfl ?_
  refine rj_iload_n dL_law_265 3 rfl rfl ?_
  refine rj_iconst (v := 1) dL_law_266 (by decide) ?_
  refine rj_iadd dL_law_267 ?_
  refine rl_arg (k := 1) dL_law_268 (nI_add i 1) (by omega) hL ?_
  refine rj_aload_n dL_law_269 0 rfl rfl ?_
  refine rj_iload_n dL_law_270 3 rfl rfl ?_
  refine rj_iconst (v := 2) dL_law_271 (by decide) ?_
  refine rj_iadd dL_law_272 ?_
  refine rl_arg (k := 2) dL_law_273 (nI_add i 2) (by omega) hL ?_
  refine rl_call2 (kr := kX11_dirt) (As := [.int (wS w (i + 1)), .int (wS w (i + 2))]) ml_RL_21 mvX11_dirt dL_law_274 rfl rfl rfl (by decide) hf hq (fun M2 hI2 => ?_)
  exact rj_icmp_eq (tgt := 1538) dL_law_277 (by decide) (fun _ => kk M2 hI2) (fun hc => absurd rfl hc)
theorem lc_2 (hL : wL w ≤ 3072) (hi : i + 6 ≤ wL w) (hf : ce ≤ 600000 ∧ sl ≤ 7302250) (hI : INV M) (kk : ∀ M', INV M' → RS w room_1 (kL nm) ce sl 1538 [(0, .ref 1000), (1, .ref 0), (2, .ref 59), (3, .int (nI i))] [] M' (LF w)) : RS w room_1 (kL nm) ce sl 282 [(0, .ref 1000), (1, .ref 0), (2, .ref 59), (3, .int (nI i))] [] M (LF w) := by
  refine rj_aload_n dL_law_282 1 rfl rfl ?_
  refine rj_aload_n dL_law_283 0 rfl rfl ?_
  refine rj_iload_n dL_law_284 3 rfl rfl ?_
  refine rj_iconst (v := 1) dL_law_285 (by decide) ?_
  refine rj_iadd dL_law_286 ?_
  refine rl_arg (k := 1) dL_law_287 (nI_add i 1) (by omega) hL ?_
  refine rj_aload_n dL_law_288 0 rfl rfl ?_
  refine rj_iload_n dL_law_289 3 rfl rfl ?_
  refine rj_iconst (v := 2) dL_law_290 (by decide) ?_
  refine rj_iadd dL_law_291 ?_
  refine rl_arg (k := 2) dL_law_292 (nI_add i 2) (by omega) hL ?_
  refine rl_call1 (kc := kX10_set) (kr := kX11_set) (As := [.int (wS w (i + 1)), .int (wS w (i + 2))]) ml_RL_22 mvX10_set dL_law_293 rfl rfl rfl (by decide) hf (p_set hI) (fun x M1 hq => ?_)
  refine rj_aload_n dL_law_296 2 rfl rfl ?_
  refine rj_aload_n dL_law_297 0 rfl rfl ?_
  refine rj_iload_n dL_law_298 3 rfl rfl ?_
  refine rj_iconst (v := 1) dL_law_299 (by decide) ?_
  refine rj_iadd dL_law_300 ?_
  refine rl_arg (k := 1) dL_law_301 (nI_add i 1) (by omega) hL ?_
  refine rj_aload_n dL_law_302 0 rfl rfl ?_
  refine rj_iload_n dL_law_303 3 rfl rfl ?_
  refine rj_iconst (v := 2) dL_law_304 (by decide) ?_
  refine rj_iadd dL_law_305 ?_
  refine rl_arg (k := 2) dL_law_306 (nI_add i 2) (by omega) hL ?_
  refine rl_call2 (kr := kX11_set) (As := [.int (wS w (i + 1)), .int (wS w (i + 2))]) ml_RL_25 mvX11_set dL_law_307 rfl rfl rfl (by decide) hf hq (fun M2 hI2 => ?_)
  exact rj_icmp_eq (tgt := 1538) dL_law_310 (by decide) (fun _ => kk M2 hI2) (fun hc => absurd rfl hc)
theorem lc_3 (hL : wL w ≤ 3072) (hi : i + 6 ≤ wL w) (hf : ce ≤ 600000 ∧ sl ≤ 7302250) (hI : INV M) (kk : ∀ M', INV M' → RS w room_1 (kL nm) ce sl 1538 [(0, .ref 1000), (1, .ref 0), (2, .ref 59), (3, .int (nI i))] [] M' (LF w)) : RS w room_1 (kL nm) ce sl 315 [(0, .ref 1000), (1, .ref 0), (2, .ref 59), (3, .int (nI i))] [] M (LF w) := by
  refine rj_aload_n dL_law_315 1 rfl rfl ?_
  refine rj_aload_n dL_law_316 0 rfl rfl ?_
  refine rj_iload_n dL_law_317 3 rfl rfl ?_
  refine rj_iconst (v := 1) dL_law_318 (by decide) ?_
  refine rj_iadd dL_law_319 ?_
  refine rl_arg (k := 1) dL_law_320 (nI_add i 1) (by omega) hL ?_
  refine rl_call1 (kc := kX10_scatter) (kr := kX11_scatter) (As := [.int (wS w (i + 1))]) ml_RL_26 mvX10_scatter dL_law_321 rfl rfl rfl (by decide) hf (p_scatter hI) (fun x M1 hq => ?_)
  refine rj_aload_n dL_law_324 2 rfl rfl ?_
  refine rj_aload_n dL_law_325 0 rfl rfl ?_
  refine rj_iload_n dL_law_326 3 rfl rfl ?_
  refine rj_iconst (v := 1) dL_law_327 (by decide) ?_
  refine rj_iadd dL_law_328 ?_
  refine rl_arg (k := 1) dL_law_329 (nI_add i 1) (by omega) hL ?_
  refine rl_call2 (kr := kX11_scatter) (As := [.int (wS w (i + 1))]) ml_RL_30 mvX11_scatter dL_law_330 rfl rfl rfl (by decide) hf hq (fun M2 hI2 => ?_)
  exact rj_icmp_eq (tgt := 1538) dL_law_333 (by decide) (fun _ => kk M2 hI2) (fun hc => absurd rfl hc)
theorem lc_4 (hL : wL w ≤ 3072) (hi : i + 6 ≤ wL w) (hf : ce ≤ 600000 ∧ sl ≤ 7302250) (hI : INV M) (kk : ∀ M', INV M' → RS w room_1 (kL nm) ce sl 1538 [(0, .ref 1000), (1, .ref 0), (2, .ref 59), (3, .int (nI i))] [] M' (LF w)) : RS w room_1 (kL nm) ce sl 338 [(0, .ref 1000), (1, .ref 0), (2, .ref 59), (3, .int (nI i))] [] M (LF w) := by
  refine rj_aload_n dL_law_338 1 rfl rfl ?_
  refine rj_aload_n dL_law_339 0 rfl rfl ?_
  refine rj_iload_n dL_law_340 3 rfl rfl ?_
  refine rj_iconst (v := 1) dL_law_341 (by decide) ?_
  refine rj_iadd dL_law_342 ?_
  refine rl_arg (k := 1) dL_law_343 (nI_add i 1) (by omega) hL ?_
  refine rl_call1 (kc := kX10_clean) (kr := kX11_clean) (As := [.int (wS w (i + 1))]) ml_RL_31 mvX10_clean dL_law_344 rfl rfl rfl (by decide) hf (p_clean hI) (fun x M1 hq => ?_)
  refine rj_aload_n dL_law_347 2 rfl rfl ?_
  refine rj_aload_n dL_law_348 0 rfl rfl ?_
  refine rj_iload_n dL_law_349 3 rfl rfl ?_
  refine rj_iconst (v := 1) dL_law_350 (by decide) ?_
  refine rj_iadd dL_law_351 ?_
  refine rl_arg (k := 1) dL_law_352 (nI_add i 1) (by omega) hL ?_
  refine rl_call2 (kr := kX11_clean) (As := [.int (wS w (i + 1))]) ml_RL_34 mvX11_clean dL_law_353 rfl rfl rfl (by decide) hf hq (fun M2 hI2 => ?_)
  exact rj_icmp_eq (tgt := 1538) dL_law_356 (by decide) (fun _ => kk M2 hI2) (fun hc => absurd rfl hc)
theorem lc_5 (hL : wL w ≤ 3072) (hi : i + 6 ≤ wL w) (hf : ce ≤ 600000 ∧ sl ≤ 7302250) (hI : INV M) (kk : ∀ M', INV M' → RS w room_1 (kL nm) ce sl 1538 [(0, .ref 1000), (1, .ref 0), (2, .ref 59), (3, .int (nI i))] [] M' (LF w)) : RS w room_1 (kL nm) ce sl 361 [(0, .ref 1000), (1, .ref 0), (2, .ref 59), (3, .int (nI i))] [] M (LF w) := by
  refine rj_aload_n dL_law_361 1 rfl rfl ?_
  refine rj_aload_n dL_law_362 0 rfl rfl ?_
  refine rj_iload_n dL_law_363 3 rfl rfl ?_
  refine rj_iconst (v := 1) dL_law_364 (by decide) ?_
  refine rj_iadd dL_law_365 ?_
  refine rl_arg (k := 1) dL_law_366 (nI_add i 1) (by omega) hL ?_
  refine rl_call1 (kc := kX10_finger) (kr := kX11_finger) (As := [.int (wS w (i + 1))]) ml_RL_35 mvX10_finger dL_law_367 rfl rfl rfl (by decide) hf (p_finger hI) (fun x M1 hq => ?_)
  refine rj_aload_n dL_law_370 2 rfl rfl ?_
  refine rj_aload_n dL_law_371 0 rfl rfl ?_
  refine rj_iload_n dL_law_372 3 rfl rfl ?_
  refine rj_iconst (v := 1) dL_law_373 (by decide) ?_
  refine rj_iadd dL_law_374 ?_
  refine rl_arg (k := 1) dL_law_375 (nI_add i 1) (by omega) hL ?_
  refine rl_call2 (kr := kX11_finger) (As := [.int (wS w (i + 1))]) ml_RL_38 mvX11_finger dL_law_376 rfl rfl rfl (by decide) hf hq (fun M2 hI2 => ?_)
  exact rj_icmp_eq (tgt := 1538) dL_law_379 (by decide) (fun _ => kk M2 hI2) (fun hc => absurd rfl hc)
theorem lc_6 (hL : wL w ≤ 3072) (hi : i + 6 ≤ wL w) (hf : ce ≤ 600000 ∧ sl ≤ 7302250) (hI : INV M) (kk : ∀ M', INV M' → RS w room_1 (kL nm) ce sl 1538 [(0, .ref 1000), (1, .ref 0), (2, .ref 59), (3, .int (nI i))] [] M' (LF w)) : RS w room_1 (kL nm) ce sl 384 [(0, .ref 1000), (1, .ref 0), (2, .ref 59), (3, .int (nI i))] [] M (LF w) := by
  refine rj_aload_n dL_law_384 1 rfl rfl ?_
  refine rj_aload_n dL_law_385 0 rfl rfl ?_
  refine rj_iload_n dL_law_386 3 rfl rfl ?_
  refine rj_iconst (v := 1) dL_law_387 (by decide) ?_
  refine rj_iadd dL_law_388 ?_
  refine rl_arg (k := 1) dL_law_389 (nI_add i 1) (by omega) hL ?_
  refine rl_call1 (kc := kX10_fades) (kr := kX11_fades) (As := [.int (wS w (i + 1))]) ml_RL_39 mvX10_fades dL_law_390 rfl rfl rfl (by decide) hf (p_fades hI) (fun x M1 hq => ?_)
  refine rj_aload_n dL_law_393 2 rfl rfl ?_
  refine rj_aload_n dL_law_394 0 rfl rfl ?_
  refine rj_iload_n dL_law_395 3 rfl rfl ?_
  refine rj_iconst (v := 1) dL_law_396 (by decide) ?_
  refine rj_iadd dL_law_397 ?_
  refine rl_arg (k := 1) dL_law_398 (nI_add i 1) (by omega) hL ?_
  refine rl_call2 (kr := kX11_fades) (As := [.int (wS w (i + 1))]) ml_RL_42 mvX11_fades dL_law_399 rfl rfl rfl (by decide) hf hq (fun M2 hI2 => ?_)
  exact rj_icmp_eq (tgt := 1538) dL_law_402 (by decide) (fun _ => kk M2 hI2) (fun hc => absurd rfl hc)
theorem lc_7 (hL : wL w ≤ 3072) (hi : i + 6 ≤ wL w) (hf : ce ≤ 600000 ∧ sl ≤ 7302250) (hI : INV M) (kk : ∀ M', INV M' → RS w room_1 (kL nm) ce sl 1538 [(0, .ref 1000), (1, .ref 0), (2, .ref 59), (3, .int (nI i))] [] M' (LF w)) : RS w room_1 (kL nm) ce sl 407 [(0, .ref 1000), (1, .ref 0), (2, .ref 59), (3, .int (nI i))] [] M (LF w) := by
  refine rj_aload_n dL_law_407 1 rfl rfl ?_
  refine rj_aload_n dL_law_408 0 rfl rfl ?_
  refine rj_iload_n dL_law_409 3 rfl rfl ?_
  refine rj_iconst (v := 1) dL_law_410 (by decide) ?_
  refine rj_iadd dL_law_411 ?_
  refine rl_arg (k := 1) dL_law_412 (nI_add i 1) (by omega) hL ?_
  refine rj_aload_n dL_law_413 0 rfl rfl ?_
  refine rj_iload_n dL_law_414 3 rfl rfl ?_
  refine rj_iconst (v := 2) dL_law_415 (by decide) ?_
  refine rj_iadd dL_law_416 ?_
  refine rl_arg (k := 2) dL_law_417 (nI_add i 2) (by omega) hL ?_
  refine rj_aload_n dL_law_418 0 rfl rfl ?_
  refine rj_iload_n dL_law_419 3 rfl rfl ?_
  refine rj_iconst (v := 3) dL_law_420 (by decide) ?_
  refine rj_iadd dL_law_421 ?_
  refine rl_arg (k := 3) dL_law_422 (nI_add i 3) (by omega) hL ?_
  refine rl_call1 (kc := kX10_drop) (kr := kX11_drop) (As := [.int (wS w (i + 1)), .int (wS w (i + 2)), .int (wS w (i + 3))]) ml_RL_43 mvX10_drop dL_law_423 rfl rfl rfl (by decide) hf (p_drop hI) (fun x M1 hq => ?_)
  refine rj_aload_n dL_law_426 2 rfl rfl ?_
  refine rj_aload_n dL_law_427 0 rfl rfl ?_
  refine rj_iload_n dL_law_428 3 rfl rfl ?_
  refine rj_iconst (v := 1) dL_law_429 (by decide) ?_
  refine rj_iadd dL_law_430 ?_
  refine rl_arg (k := 1) dL_law_431 (nI_add i 1) (by omega) hL ?_
  refine rj_aload_n dL_law_432 0 rfl rfl ?_
  refine rj_iload_n dL_law_433 3 rfl rfl ?_
  refine rj_iconst (v := 2) dL_law_434 (by decide) ?_
  refine rj_iadd dL_law_435 ?_
  refine rl_arg (k := 2) dL_law_436 (nI_add i 2) (by omega) hL ?_
  refine rj_aload_n dL_law_437 0 rfl rfl ?_
  refine rj_iload_n dL_law_438 3 rfl rfl ?_
  refine rj_iconst (v := 3) dL_law_439 (by decide) ?_
  refine rj_iadd dL_law_440 ?_
  refine rl_arg (k := 3) dL_law_441 (nI_add i 3) (by omega) hL ?_
  refine rl_call2 (kr := kX11_drop) (As := [.int (wS w (i + 1)), .int (wS w (i + 2)), .int (wS w (i + 3))]) ml_RL_47 mvX11_drop dL_law_442 rfl rfl rfl (by decide) hf hq (fun M2 hI2 => ?_)
  exact rj_icmp_eq (tgt := 1538) dL_law_445 (by decide) (fun _ => kk M2 hI2) (fun hc => absurd rfl hc)
theorem lc_8 (hL : wL w ≤ 3072) (hi : i + 6 ≤ wL w) (hf : ce ≤ 600000 ∧ sl ≤ 7302250) (hI : INV M) (kk : ∀ M', INV M' → RS w room_1 (kL nm) ce sl 1538 [(0, .ref 1000), (1, .ref 0), (2, .ref 59), (3, .int (nI i))] [] M' (LF w)) : RS w room_1 (kL nm) ce sl 450 [(0, .ref 1000), (1, .ref 0), (2, .ref 59), (3, .int (nI i))] [] M (LF w) := by
  refine rj_aload_n dL_law_450 1 rfl rfl ?_
  refine rj_aload_n dL_law_451 0 rfl rfl ?_
  refine rj_iload_n dL_law_452 3 rfl rfl ?_
  refine rj_iconst (v := 1) dL_law_453 (by decide) ?_
  refine rj_iadd dL_law_454 ?_
  refine rl_arg (k := 1) dL_law_455 (nI_add i 1) (by omega) hL ?_
  refine rj_aload_n dL_law_456 0 rfl rfl ?_
  refine rj_iload_n dL_law_457 3 rfl rfl ?_
  refine rj_iconst (v := 2) dL_law_458 (by decide) ?_
  refine rj_iadd dL_law_459 ?_
  refine rl_arg (k := 2) dL_law_460 (nI_add i 2) (by omega) hL ?_
  refine rl_call1 (kc := kX10_dropOf) (kr := kX11_dropOf) (As := [.int (wS w (i + 1)), .int (wS w (i + 2))]) ml_RL_48 mvX10_dropOf dL_law_461 rfl rfl rfl (by decide) hf (p_dropOf hI) (fun x M1 hq => ?_)
  refine rj_aload_n dL_law_464 2 rfl rfl ?_
  refine rj_aload_n dL_law_465 0 rfl rfl ?_
  refine rj_iload_n dL_law_466 3 rfl rfl ?_
  refine rj_iconst (v := 1) dL_law_467 (by decide) ?_
  refine rj_iadd dL_law_468 ?_
  refine rl_arg (k := 1) dL_law_469 (nI_add i 1) (by omega) hL ?_
  refine rj_aload_n dL_law_470 0 rfl rfl ?_
  refine rj_iload_n dL_law_471 3 rfl rfl ?_
  refine rj_iconst (v := 2) dL_law_472 (by decide) ?_
  refine rj_iadd dL_law_473 ?_
  refine rl_arg (k := 2) dL_law_474 (nI_add i 2) (by omega) hL ?_
  refine rl_call2 (kr := kX11_dropOf) (As := [.int (wS w (i + 1)), .int (wS w (i + 2))]) ml_RL_51 mvX11_dropOf dL_law_475 rfl rfl rfl (by decide) hf hq (fun M2 hI2 => ?_)
  exact rj_icmp_eq (tgt := 1538) dL_law_478 (by decide) (fun _ => kk M2 hI2) (fun hc => absurd rfl hc)
theorem lc_9 (hL : wL w ≤ 3072) (hi : i + 6 ≤ wL w) (hf : ce ≤ 600000 ∧ sl ≤ 7302250) (hI : INV M) (kk : ∀ M', INV M' → RS w room_1 (kL nm) ce sl 1538 [(0, .ref 1000), (1, .ref 0), (2, .ref 59), (3, .int (nI i))] [] M' (LF w)) : RS w room_1 (kL nm) ce sl 483 [(0, .ref 1000), (1, .ref 0), (2, .ref 59), (3, .int (nI i))] [] M (LF w) := by
  refine rj_aload_n dL_law_483 1 rfl rfl ?_
  refine rj_aload_n dL_law_484 0 rfl rfl ?_
  refine rj_iload_n dL_law_485 3 rfl rfl ?_
  refine rj_iconst (v := 1) dL_law_486 (by decide) ?_
  refine rj_iadd dL_law_487 ?_
  refine rl_arg (k := 1) dL_law_488 (nI_add i 1) (by omega) hL ?_
  refine rl_call1 (kc := kX10_tick) (kr := kX11_tick) (As := [.int (wS w (i + 1))]) ml_RL_52 mvX10_tick dL_law_489 rfl rfl rfl (by decide) hf (p_tick hI) (fun x M1 hq => ?_)
  refine rj_aload_n dL_law_492 2 rfl rfl ?_
  refine rj_aload_n dL_law_493 0 rfl rfl ?_
  refine rj_iload_n dL_law_494 3 rfl rfl ?_
  refine rj_iconst (v := 1) dL_law_495 (by decide) ?_
  refine rj_iadd dL_law_496 ?_
  refine rl_arg (k := 1) dL_law_497 (nI_add i 1) (by omega) hL ?_
  refine rl_call2 (kr := kX11_tick) (As := [.int (wS w (i + 1))]) ml_RL_55 mvX11_tick dL_law_498 rfl rfl rfl (by decide) hf hq (fun M2 hI2 => ?_)
  exact rj_icmp_eq (tgt := 1538) dL_law_501 (by decide) (fun _ => kk M2 hI2) (fun hc => absurd rfl hc)
theorem lc_10 (hL : wL w ≤ 3072) (hi : i + 6 ≤ wL w) (hf : ce ≤ 600000 ∧ sl ≤ 7302250) (hI : INV M) (kk : ∀ M', INV M' → RS w room_1 (kL nm) ce sl 1538 [(0, .ref 1000), (1, .ref 0), (2, .ref 59), (3, .int (nI i))] [] M' (LF w)) : RS w room_1 (kL nm) ce sl 506 [(0, .ref 1000), (1, .ref 0), (2, .ref 59), (3, .int (nI i))] [] M (LF w) := by
  refine rj_aload_n dL_law_506 1 rfl rfl ?_
  refine rj_aload_n dL_law_507 0 rfl rfl ?_
  refine rj_iload_n dL_law_508 3 rfl rfl ?_
  refine rj_iconst (v := 1) dL_law_509 (by decide) ?_
  refine rj_iadd dL_law_510 ?_
  refine rl_arg (k := 1) dL_law_511 (nI_add i 1) (by omega) hL ?_
  refine rl_call1 (kc := kX10_next) (kr := kX11_next) (As := [.int (wS w (i + 1))]) ml_RL_56 mvX10_next dL_law_512 rfl rfl rfl (by decide) hf (p_next hI) (fun x M1 hq => ?_)
  refine rj_aload_n dL_law_515 2 rfl rfl ?_
  refine rj_aload_n dL_law_516 0 rfl rfl ?_
  refine rj_iload_n dL_law_517 3 rfl rfl ?_
  refine rj_iconst (v := 1) dL_law_518 (by decide) ?_
  refine rj_iadd dL_law_519 ?_
  refine rl_arg (k := 1) dL_law_520 (nI_add i 1) (by omega) hL ?_
  refine rl_call2 (kr := kX11_next) (As := [.int (wS w (i + 1))]) ml_RL_59 mvX11_next dL_law_521 rfl rfl rfl (by decide) hf hq (fun M2 hI2 => ?_)
  exact rj_icmp_eq (tgt := 1538) dL_law_524 (by decide) (fun _ => kk M2 hI2) (fun hc => absurd rfl hc)
theorem lc_11 (hL : wL w ≤ 3072) (hi : i + 6 ≤ wL w) (hf : ce ≤ 600000 ∧ sl ≤ 7302250) (hI : INV M) (kk : ∀ M', INV M' → RS w room_1 (kL nm) ce sl 1538 [(0, .ref 1000), (1, .ref 0), (2, .ref 59), (3, .int (nI i))] [] M' (LF w)) : RS w room_1 (kL nm) ce sl 529 [(0, .ref 1000), (1, .ref 0), (2, .ref 59), (3, .int (nI i))] [] M (LF w) := by
  refine rj_aload_n dL_law_529 1 rfl rfl ?_
  refine rj_aload_n dL_law_530 0 rfl rfl ?_
  refine rj_iload_n dL_law_531 3 rfl rfl ?_
  refine rj_iconst (v := 1) dL_law_532 (by decide) ?_
  refine rj_iadd dL_law_533 ?_
  refine rl_arg (k := 1) dL_law_534 (nI_add i 1) (by omega) hL ?_
  refine rj_aload_n dL_law_535 0 rfl rfl ?_
  refine rj_iload_n dL_law_536 3 rfl rfl ?_
  refine rj_iconst (v := 2) dL_law_537 (by decide) ?_
  refine rj_iadd dL_law_538 ?_
  refine rl_arg (k := 2) dL_law_539 (nI_add i 2) (by omega) hL ?_
  refine rl_call1 (kc := kX10_pour) (kr := kX11_pour) (As := [.int (wS w (i + 1)), .int (wS w (i + 2))]) ml_RL_60 mvX10_pour dL_law_540 rfl rfl rfl (by decide) hf (p_pour hI) (fun x M1 hq => ?_)
  refine rj_aload_n dL_law_543 2 rfl rfl ?_
  refine rj_aload_n dL_law_544 0 rfl rfl ?_
  refine rj_iload_n dL_law_545 3 rfl rfl ?_
  refine rj_iconst (v := 1) dL_law_546 (by decide) ?_
  refine rj_iadd dL_law_547 ?_
  refine rl_arg (k := 1) dL_law_548 (nI_add i 1) (by omega) hL ?_
  refine rj_aload_n dL_law_549 0 rfl rfl ?_
  refine rj_iload_n dL_law_550 3 rfl rfl ?_
  refine rj_iconst (v := 2) dL_law_551 (by decide) ?_
  refine rj_iadd dL_law_552 ?_
  refine rl_arg (k := 2) dL_law_553 (nI_add i 2) (by omega) hL ?_
  refine rl_call2 (kr := kX11_pour) (As := [.int (wS w (i + 1)), .int (wS w (i + 2))]) ml_RL_63 mvX11_pour dL_law_554 rfl rfl rfl (by decide) hf hq (fun M2 hI2 => ?_)
  exact rj_icmp_eq (tgt := 1538) dL_law_557 (by decide) (fun _ => kk M2 hI2) (fun hc => absurd rfl hc)
theorem lc_12 (hL : wL w ≤ 3072) (hi : i + 6 ≤ wL w) (hf : ce ≤ 600000 ∧ sl ≤ 7302250) (hI : INV M) (kk : ∀ M', INV M' → RS w room_1 (kL nm) ce sl 1538 [(0, .ref 1000), (1, .ref 0), (2, .ref 59), (3, .int (nI i))] [] M' (LF w)) : RS w room_1 (kL nm) ce sl 562 [(0, .ref 1000), (1, .ref 0), (2, .ref 59), (3, .int (nI i))] [] M (LF w) := by
  refine rj_aload_n dL_law_562 1 rfl rfl ?_
  refine rj_aload_n dL_law_563 0 rfl rfl ?_
  refine rj_iload_n dL_law_564 3 rfl rfl ?_
  refine rj_iconst (v := 1) dL_law_565 (by decide) ?_
  refine rj_iadd dL_law_566 ?_
  refine rl_arg (k := 1) dL_law_567 (nI_add i 1) (by omega) hL ?_
  refine rl_call1 (kc := kX10_shed) (kr := kX11_shed) (As := [.int (wS w (i + 1))]) ml_RL_64 mvX10_shed dL_law_568 rfl rfl rfl (by decide) hf (p_shed hI) (fun x M1 hq => ?_)
  refine rj_aload_n dL_law_571 2 rfl rfl ?_
  refine rj_aload_n dL_law_572 0 rfl rfl ?_
  refine rj_iload_n dL_law_573 3 rfl rfl ?_
  refine rj_iconst (v := 1) dL_law_574 (by decide) ?_
  refine rj_iadd dL_law_575 ?_
  refine rl_arg (k := 1) dL_law_576 (nI_add i 1) (by omega) hL ?_
  refine rl_call2 (kr := kX11_shed) (As := [.int (wS w (i + 1))]) ml_RL_67 mvX11_shed dL_law_577 rfl rfl rfl (by decide) hf hq (fun M2 hI2 => ?_)
  exact rj_icmp_eq (tgt := 1538) dL_law_580 (by decide) (fun _ => kk M2 hI2) (fun hc => absurd rfl hc)
theorem lc_13 (hL : wL w ≤ 3072) (hi : i + 6 ≤ wL w) (hf : ce ≤ 600000 ∧ sl ≤ 7302250) (hI : INV M) (kk : ∀ M', INV M' → RS w room_1 (kL nm) ce sl 1538 [(0, .ref 1000), (1, .ref 0), (2, .ref 59), (3, .int (nI i))] [] M' (LF w)) : RS w room_1 (kL nm) ce sl 585 [(0, .ref 1000), (1, .ref 0), (2, .ref 59), (3, .int (nI i))] [] M (LF w) := by
  refine rj_aload_n dL_law_585 1 rfl rfl ?_
  refine rj_aload_n dL_law_586 0 rfl rfl ?_
  refine rj_iload_n dL_law_587 3 rfl rfl ?_
  refine rj_iconst (v := 1) dL_law_588 (by decide) ?_
  refine rj_iadd dL_law_589 ?_
  refine rl_arg (k := 1) dL_law_590 (nI_add i 1) (by omega) hL ?_
  refine rj_aload_n dL_law_591 0 rfl rfl ?_
  refine rj_iload_n dL_law_592 3 rfl rfl ?_
  refine rj_iconst (v := 2) dL_law_593 (by decide) ?_
  refine rj_iadd dL_law_594 ?_
  refine rl_arg (k := 2) dL_law_595 (nI_add i 2) (by omega) hL ?_
  refine rl_call1 (kc := kX10_feed) (kr := kX11_feed) (As := [.int (wS w (i + 1)), .int (wS w (i + 2))]) ml_RL_68 mvX10_feed dL_law_596 rfl rfl rfl (by decide) hf (p_feed hI) (fun x M1 hq => ?_)
  refine rj_aload_n dL_law_599 2 rfl rfl ?_
  refine rj_aload_n dL_law_600 0 rfl rfl ?_
  refine rj_iload_n dL_law_601 3 rfl rfl ?_
  refine rj_iconst (v := 1) dL_law_602 (by decide) ?_
  refine rj_iadd dL_law_603 ?_
  refine rl_arg (k := 1) dL_law_604 (nI_add i 1) (by omega) hL ?_
  refine rj_aload_n dL_law_605 0 rfl rfl ?_
  refine rj_iload_n dL_law_606 3 rfl rfl ?_
  refine rj_iconst (v := 2) dL_law_607 (by decide) ?_
  refine rj_iadd dL_law_608 ?_
  refine rl_arg (k := 2) dL_law_609 (nI_add i 2) (by omega) hL ?_
  refine rl_call2 (kr := kX11_feed) (As := [.int (wS w (i + 1)), .int (wS w (i + 2))]) ml_RL_71 mvX11_feed dL_law_610 rfl rfl rfl (by decide) hf hq (fun M2 hI2 => ?_)
  exact rj_icmp_eq (tgt := 1538) dL_law_613 (by decide) (fun _ => kk M2 hI2) (fun hc => absurd rfl hc)
theorem lc_14 (hL : wL w ≤ 3072) (hi : i + 6 ≤ wL w) (hf : ce ≤ 600000 ∧ sl ≤ 7302250) (hI : INV M) (kk : ∀ M', INV M' → RS w room_1 (kL nm) ce sl 1538 [(0, .ref 1000), (1, .ref 0), (2, .ref 59), (3, .int (nI i))] [] M' (LF w)) : RS w room_1 (kL nm) ce sl 618 [(0, .ref 1000), (1, .ref 0), (2, .ref 59), (3, .int (nI i))] [] M (LF w) := by
  refine rj_aload_n dL_law_618 1 rfl rfl ?_
  refine rl_call1 (kc := kX10_wipe) (kr := kX11_wipe) (As := []) ml_RL_72 mvX10_wipe dL_law_619 rfl rfl rfl (by decide) hf (p_wipe hI) (fun x M1 hq => ?_)
  refine rj_aload_n dL_law_622 2 rfl rfl ?_
  refine rl_call2 (kr := kX11_wipe) (As := []) ml_RL_76 mvX11_wipe dL_law_623 rfl rfl rfl (by decide) hf hq (fun M2 hI2 => ?_)
  exact rj_icmp_eq (tgt := 1538) dL_law_626 (by decide) (fun _ => kk M2 hI2) (fun hc => absurd rfl hc)
theorem lc_15 (hL : wL w ≤ 3072) (hi : i + 6 ≤ wL w) (hf : ce ≤ 600000 ∧ sl ≤ 7302250) (hI : INV M) (kk : ∀ M', INV M' → RS w room_1 (kL nm) ce sl 1538 [(0, .ref 1000), (1, .ref 0), (2, .ref 59), (3, .int (nI i))] [] M' (LF w)) : RS w room_1 (kL nm) ce sl 631 [(0, .ref 1000), (1, .ref 0), (2, .ref 59), (3, .int (nI i))] [] M (LF w) := by
  refine rj_aload_n dL_law_631 1 rfl rfl ?_
  refine rl_call1 (kc := kX10_program) (kr := kX11_program) (As := []) ml_RL_77 mvX10_program dL_law_632 rfl rfl rfl (by decide) hf (p_program hI) (fun x M1 hq => ?_)
  refine rj_aload_n dL_law_635 2 rfl rfl ?_
  refine rl_call2 (kr := kX11_program) (As := []) ml_RL_80 mvX11_program dL_law_636 rfl rfl rfl (by decide) hf hq (fun M2 hI2 => ?_)
  exact rj_icmp_eq (tgt := 1538) dL_law_639 (by decide) (fun _ => kk M2 hI2) (fun hc => absurd rfl hc)
theorem lc_16 (hL : wL w ≤ 3072) (hi : i + 6 ≤ wL w) (hf : ce ≤ 600000 ∧ sl ≤ 7302250) (hI : INV M) (kk : ∀ M', INV M' → RS w room_1 (kL nm) ce sl 1538 [(0, .ref 1000), (1, .ref 0), (2, .ref 59), (3, .int (nI i))] [] M' (LF w)) : RS w room_1 (kL nm) ce sl 644 [(0, .ref 1000), (1, .ref 0), (2, .ref 59), (3, .int (nI i))] [] M (LF w) := by
  refine rj_aload_n dL_law_644 1 rfl rfl ?_
  refine rj_aload_n dL_law_645 0 rfl rfl ?_
  refine rj_iload_n dL_law_646 3 rfl rfl ?_
  refine rj_iconst (v := 1) dL_law_647 (by decide) ?_
  refine rj_iadd dL_law_648 ?_
  refine rl_arg (k := 1) dL_law_649 (nI_add i 1) (by omega) hL ?_
  refine rj_aload_n dL_law_650 0 rfl rfl ?_
  refine rj_iload_n dL_law_651 3 rfl rfl ?_
  refine rj_iconst (v := 2) dL_law_652 (by decide) ?_
  refine rj_iadd dL_law_653 ?_
  refine rl_arg (k := 2) dL_law_654 (nI_add i 2) (by omega) hL ?_
  refine rl_call1 (kc := kX10_programOf) (kr := kX11_programOf) (As := [.int (wS w (i + 1)), .int (wS w (i + 2))]) ml_RL_81 mvX10_programOf dL_law_655 rfl rfl rfl (by decide) hf (p_programOf hI) (fun x M1 hq => ?_)
  refine rj_aload_n dL_law_658 2 rfl rfl ?_
  refine rj_aload_n dL_law_659 0 rfl rfl ?_
  refine rj_iload_n dL_law_660 3 rfl rfl ?_
  refine rj_iconst (v := 1) dL_law_661 (by decide) ?_
  refine rj_iadd dL_law_662 ?_
  refine rl_arg (k := 1) dL_law_663 (nI_add i 1) (by omega) hL ?_
  refine rj_aload_n dL_law_664 0 rfl rfl ?_
  refine rj_iload_n dL_law_665 3 rfl rfl ?_
  refine rj_iconst (v := 2) dL_law_666 (by decide) ?_
  refine rj_iadd dL_law_667 ?_
  refine rl_arg (k := 2) dL_law_668 (nI_add i 2) (by omega) hL ?_
  refine rl_call2 (kr := kX11_programOf) (As := [.int (wS w (i + 1)), .int (wS w (i + 2))]) ml_RL_84 mvX11_programOf dL_law_669 rfl rfl rfl (by decide) hf hq (fun M2 hI2 => ?_)
  exact rj_icmp_eq (tgt := 1538) dL_law_672 (by decide) (fun _ => kk M2 hI2) (fun hc => absurd rfl hc)
theorem lc_17 (hL : wL w ≤ 3072) (hi : i + 6 ≤ wL w) (hf : ce ≤ 600000 ∧ sl ≤ 7302250) (hI : INV M) (kk : ∀ M', INV M' → RS w room_1 (kL nm) ce sl 1538 [(0, .ref 1000), (1, .ref 0), (2, .ref 59), (3, .int (nI i))] [] M' (LF w)) : RS w room_1 (kL nm) ce sl 677 [(0, .ref 1000), (1, .ref 0), (2, .ref 59), (3, .int (nI i))] [] M (LF w) := by
  refine rj_aload_n dL_law_677 1 rfl rfl ?_
  refine rj_aload_n dL_law_678 0 rfl rfl ?_
  refine rj_iload_n dL_law_679 3 rfl rfl ?_
  refine rj_iconst (v := 1) dL_law_680 (by decide) ?_
  refine rj_iadd dL_law_681 ?_
  refine rl_arg (k := 1) dL_law_682 (nI_add i 1) (by omega) hL ?_
  refine rl_call1 (kc := kX10_play) (kr := kX11_play) (As := [.int (wS w (i + 1))]) ml_RL_85 mvX10_play dL_law_683 rfl rfl rfl (by decide) hf (p_play hI) (fun x M1 hq => ?_)
  refine rj_aload_n dL_law_686 2 rfl rfl ?_
  refine rj_aload_n dL_law_687 0 rfl rfl ?_
  refine rj_iload_n dL_law_688 3 rfl rfl ?_
  refine rj_iconst (v := 1) dL_law_689 (by decide) ?_
  refine rj_iadd dL_law_690 ?_
  refine rl_arg (k := 1) dL_law_691 (nI_add i 1) (by omega) hL ?_
  refine rl_call2 (kr := kX11_play) (As := [.int (wS w (i + 1))]) ml_RL_88 mvX11_play dL_law_692 rfl rfl rfl (by decide) hf hq (fun M2 hI2 => ?_)
  exact rj_icmp_eq (tgt := 1538) dL_law_695 (by decide) (fun _ => kk M2 hI2) (fun hc => absurd rfl hc)
theorem lc_18 (hL : wL w ≤ 3072) (hi : i + 6 ≤ wL w) (hf : ce ≤ 600000 ∧ sl ≤ 7302250) (hI : INV M) (kk : ∀ M', INV M' → RS w room_1 (kL nm) ce sl 1538 [(0, .ref 1000), (1, .ref 0), (2, .ref 59), (3, .int (nI i))] [] M' (LF w)) : RS w room_1 (kL nm) ce sl 700 [(0, .ref 1000), (1, .ref 0), (2, .ref 59), (3, .int (nI i))] [] M (LF w) := by
  refine rj_aload_n dL_law_700 1 rfl rfl ?_
  refine rj_aload_n dL_law_701 0 rfl rfl ?_
  refine rj_iload_n dL_law_702 3 rfl rfl ?_
  refine rj_iconst (v := 1) dL_law_703 (by decide) ?_
  refine rj_iadd dL_law_704 ?_
  refine rl_arg (k := 1) dL_law_705 (nI_add i 1) (by omega) hL ?_
  refine rj_aload_n dL_law_706 0 rfl rfl ?_
  refine rj_iload_n dL_law_707 3 rfl rfl ?_
  refine rj_iconst (v := 2) dL_law_708 (by decide) ?_
  refine rj_iadd dL_law_709 ?_
  refine rl_arg (k := 2) dL_law_710 (nI_add i 2) (by omega) hL ?_
  refine rj_aload_n dL_law_711 0 rfl rfl ?_
  refine rj_iload_n dL_law_712 3 rfl rfl ?_
  refine rj_iconst (v := 3) dL_law_713 (by decide) ?_
  refine rj_iadd dL_law_714 ?_
  refine rl_arg (k := 3) dL_law_715 (nI_add i 3) (by omega) hL ?_
  refine rj_aload_n dL_law_716 0 rfl rfl ?_
  refine rj_iload_n dL_law_717 3 rfl rfl ?_
  refine rj_iconst (v := 4) dL_law_718 (by decide) ?_
  refine rj_iadd dL_law_719 ?_
  refine rl_arg (k := 4) dL_law_720 (nI_add i 4) (by omega) hL ?_
  refine rl_call1 (kc := kX10_path) (kr := kX11_path) (As := [.int (wS w (i + 1)), .int (wS w (i + 2)), .int (wS w (i + 3)), .int (wS w (i + 4))]) ml_RL_89 mvX10_path dL_law_721 rfl rfl rfl (by decide) hf (p_path hI) (fun x M1 hq => ?_)
  refine rj_aload_n dL_law_724 2 rfl rfl ?_
  refine rj_aload_n dL_law_725 0 rfl rfl ?_
  refine rj_iload_n dL_law_726 3 rfl rfl ?_
  refine rj_iconst (v := 1) dL_law_727 (by decide) ?_
  refine rj_iadd dL_law_728 ?_
  refine rl_arg (k := 1) dL_law_729 (nI_add i 1) (by omega) hL ?_
  refine rj_aload_n dL_law_730 0 rfl rfl ?_
  refine rj_iload_n dL_law_731 3 rfl rfl ?_
  refine rj_iconst (v := 2) dL_law_732 (by decide) ?_
  refine rj_iadd dL_law_733 ?_
  refine rl_arg (k := 2) dL_law_734 (nI_add i 2) (by omega) hL ?_
  refine rj_aload_n dL_law_735 0 rfl rfl ?_
  refine rj_iload_n dL_law_736 3 rfl rfl ?_
  refine rj_iconst (v := 3) dL_law_737 (by decide) ?_
  refine rj_iadd dL_law_738 ?_
  refine rl_arg (k := 3) dL_law_739 (nI_add i 3) (by omega) hL ?_
  refine rj_aload_n dL_law_740 0 rfl rfl ?_
  refine rj_iload_n dL_law_741 3 rfl rfl ?_
  refine rj_iconst (v := 4) dL_law_742 (by decide) ?_
  refine rj_iadd dL_law_743 ?_
  refine rl_arg (k := 4) dL_law_744 (nI_add i 4) (by omega) hL ?_
  refine rl_call2 (kr := kX11_path) (As := [.int (wS w (i + 1)), .int (wS w (i + 2)), .int (wS w (i + 3)), .int (wS w (i + 4))]) ml_RL_93 mvX11_path dL_law_745 rfl rfl rfl (by decide) hf hq (fun M2 hI2 => ?_)
  exact rj_icmp_eq (tgt := 1538) dL_law_748 (by decide) (fun _ => kk M2 hI2) (fun hc => absurd rfl hc)
theorem lc_19 (hL : wL w ≤ 3072) (hi : i + 6 ≤ wL w) (hf : ce ≤ 600000 ∧ sl ≤ 7302250) (hI : INV M) (kk : ∀ M', INV M' → RS w room_1 (kL nm) ce sl 1538 [(0, .ref 1000), (1, .ref 0), (2, .ref 59), (3, .int (nI i))] [] M' (LF w)) : RS w room_1 (kL nm) ce sl 753 [(0, .ref 1000), (1, .ref 0), (2, .ref 59), (3, .int (nI i))] [] M (LF w) := by
  refine rj_aload_n dL_law_753 1 rfl rfl ?_
  refine rj_aload_n dL_law_754 0 rfl rfl ?_
  refine rj_iload_n dL_law_755 3 rfl rfl ?_
  refine rj_iconst (v := 1) dL_law_756 (by decide) ?_
  refine rj_iadd dL_law_757 ?_
  refine rl_arg (k := 1) dL_law_758 (nI_add i 1) (by omega) hL ?_
  refine rj_aload_n dL_law_759 0 rfl rfl ?_
  refine rj_iload_n dL_law_760 3 rfl rfl ?_
  refine rj_iconst (v := 2) dL_law_761 (by decide) ?_
  refine rj_iadd dL_law_762 ?_
  refine rl_arg (k := 2) dL_law_763 (nI_add i 2) (by omega) hL ?_
  refine rj_aload_n dL_law_764 0 rfl rfl ?_
  refine rj_iload_n dL_law_765 3 rfl rfl ?_
  refine rj_iconst (v := 3) dL_law_766 (by decide) ?_
  refine rj_iadd dL_law_767 ?_
  refine rl_arg (k := 3) dL_law_768 (nI_add i 3) (by omega) hL ?_
  refine rj_aload_n dL_law_769 0 rfl rfl ?_
  refine rj_iload_n dL_law_770 3 rfl rfl ?_
  refine rj_iconst (v := 4) dL_law_771 (by decide) ?_
  refine rj_iadd dL_law_772 ?_
  refine rl_arg (k := 4) dL_law_773 (nI_add i 4) (by omega) hL ?_
  refine rl_call1 (kc := kX10_along) (kr := kX11_along) (As := [.int (wS w (i + 1)), .int (wS w (i + 2)), .int (wS w (i + 3)), .int (wS w (i + 4))]) ml_RL_94 mvX10_along dL_law_774 rfl rfl rfl (by decide) hf (p_along hI) (fun x M1 hq => ?_)
  refine rj_aload_n dL_law_777 2 rfl rfl ?_
  refine rj_aload_n dL_law_778 0 rfl rfl ?_
  refine rj_iload_n dL_law_779 3 rfl rfl ?_
  refine rj_iconst (v := 1) dL_law_780 (by decide) ?_
  refine rj_iadd dL_law_781 ?_
  refine rl_arg (k := 1) dL_law_782 (nI_add i 1) (by omega) hL ?_
  refine rj_aload_n dL_law_783 0 rfl rfl ?_
  refine rj_iload_n dL_law_784 3 rfl rfl ?_
  refine rj_iconst (v := 2) dL_law_785 (by decide) ?_
  refine rj_iadd dL_law_786 ?_
  refine rl_arg (k := 2) dL_law_787 (nI_add i 2) (by omega) hL ?_
  refine rj_aload_n dL_law_788 0 rfl rfl ?_
  refine rj_iload_n dL_law_789 3 rfl rfl ?_
  refine rj_iconst (v := 3) dL_law_790 (by decide) ?_
  refine rj_iadd dL_law_791 ?_
  refine rl_arg (k := 3) dL_law_792 (nI_add i 3) (by omega) hL ?_
  refine rj_aload_n dL_law_793 0 rfl rfl ?_
  refine rj_iload_n dL_law_794 3 rfl rfl ?_
  refine rj_iconst (v := 4) dL_law_795 (by decide) ?_
  refine rj_iadd dL_law_796 ?_
  refine rl_arg (k := 4) dL_law_797 (nI_add i 4) (by omega) hL ?_
  refine rl_call2 (kr := kX11_along) (As := [.int (wS w (i + 1)), .int (wS w (i + 2)), .int (wS w (i + 3)), .int (wS w (i + 4))]) ml_RL_97 mvX11_along dL_law_798 rfl rfl rfl (by decide) hf hq (fun M2 hI2 => ?_)
  exact rj_icmp_eq (tgt := 1538) dL_law_801 (by decide) (fun _ => kk M2 hI2) (fun hc => absurd rfl hc)
theorem lc_20 (hL : wL w ≤ 3072) (hi : i + 6 ≤ wL w) (hf : ce ≤ 600000 ∧ sl ≤ 7302250) (hI : INV M) (kk : ∀ M', INV M' → RS w room_1 (kL nm) ce sl 1538 [(0, .ref 1000), (1, .ref 0), (2, .ref 59), (3, .int (nI i))] [] M' (LF w)) : RS w room_1 (kL nm) ce sl 806 [(0, .ref 1000), (1, .ref 0), (2, .ref 59), (3, .int (nI i))] [] M (LF w) := by
  refine rj_aload_n dL_law_806 1 rfl rfl ?_
  refine rj_aload_n dL_law_807 0 rfl rfl ?_
  refine rj_iload_n dL_law_808 3 rfl rfl ?_
  refine rj_iconst (v := 1) dL_law_809 (by decide) ?_
  refine rj_iadd dL_law_810 ?_
  refine rl_arg (k := 1) dL_law_811 (nI_add i 1) (by omega) hL ?_
  refine rj_aload_n dL_law_812 0 rfl rfl ?_
  refine rj_iload_n dL_law_813 3 rfl rfl ?_
  refine rj_iconst (v := 2) dL_law_814 (by decide) ?_
  refine rj_iadd dL_law_815 ?_
  refine rl_arg (k := 2) dL_law_816 (nI_add i 2) (by omega) hL ?_
  refine rj_aload_n dL_law_817 0 rfl rfl ?_
  refine rj_iload_n dL_law_818 3 rfl rfl ?_
  refine rj_iconst (v := 3) dL_law_819 (by decide) ?_
  refine rj_iadd dL_law_820 ?_
  refine rl_arg (k := 3) dL_law_821 (nI_add i 3) (by omega) hL ?_
  refine rl_b3 (t := 829) (g := 830) dL_law_822 (by decide) dL_law_825 dL_law_826 (by decide) dL_law_829 rfl ?_
  refine rl_call1 (kc := kX10_least) (kr := kX11_least) (As := [.int (wS w (i + 1)), .int (wS w (i + 2)), .int (b2i (¬ wS w (i + 3) = 0))]) ml_RL_98 mvX10_least dL_law_830 rfl rfl rfl (by decide) hf (p_least hI isB_b2i) (fun x M1 hq => ?_)
  refine rj_aload_n dL_law_833 2 rfl rfl ?_
  refine rj_aload_n dL_law_834 0 rfl rfl ?_
  refine rj_iload_n dL_law_835 3 rfl rfl ?_
  refine rj_iconst (v := 1) dL_law_836 (by decide) ?_
  refine rj_iadd dL_law_837 ?_
  refine rl_arg (k := 1) dL_law_838 (nI_add i 1) (by omega) hL ?_
  refine rj_aload_n dL_law_839 0 rfl rfl ?_
  refine rj_iload_n dL_law_840 3 rfl rfl ?_
  refine rj_iconst (v := 2) dL_law_841 (by decide) ?_
  refine rj_iadd dL_law_842 ?_
  refine rl_arg (k := 2) dL_law_843 (nI_add i 2) (by omega) hL ?_
  refine rj_aload_n dL_law_844 0 rfl rfl ?_
  refine rj_iload_n dL_law_845 3 rfl rfl ?_
  refine rj_iconst (v := 3) dL_law_846 (by decide) ?_
  refine rj_iadd dL_law_847 ?_
  refine rl_arg (k := 3) dL_law_848 (nI_add i 3) (by omega) hL ?_
  refine rl_b3 (t := 856) (g := 857) dL_law_849 (by decide) dL_law_852 dL_law_853 (by decide) dL_law_856 rfl ?_
  refine rl_call2 (kr := kX11_least) (As := [.int (wS w (i + 1)), .int (wS w (i + 2)), .int (b2i (¬ wS w (i + 3) = 0))]) ml_RL_102 mvX11_least dL_law_857 rfl rfl rfl (by decide) hf hq (fun M2 hI2 => ?_)
  exact rj_icmp_eq (tgt := 1538) dL_law_860 (by decide) (fun _ => kk M2 hI2) (fun hc => absurd rfl hc)
theorem lc_21 (hL : wL w ≤ 3072) (hi : i + 6 ≤ wL w) (hf : ce ≤ 600000 ∧ sl ≤ 7302250) (hI : INV M) (kk : ∀ M', INV M' → RS w room_1 (kL nm) ce sl 1538 [(0, .ref 1000), (1, .ref 0), (2, .ref 59), (3, .int (nI i))] [] M' (LF w)) : RS w room_1 (kL nm) ce sl 865 [(0, .ref 1000), (1, .ref 0), (2, .ref 59), (3, .int (nI i))] [] M (LF w) := by
  refine rj_aload_n dL_law_865 1 rfl rfl ?_
  refine rj_aload_n dL_law_866 0 rfl rfl ?_
  refine rj_iload_n dL_law_867 3 rfl rfl ?_
  refine rj_iconst (v := 1) dL_law_868 (by decide) ?_
  refine rj_iadd dL_law_869 ?_
  refine rl_arg (k := 1) dL_law_870 (nI_add i 1) (by omega) hL ?_
  refine rj_aload_n dL_law_871 0 rfl rfl ?_
  refine rj_iload_n dL_law_872 3 rfl rfl ?_
  refine rj_iconst (v := 2) dL_law_873 (by decide) ?_
  refine rj_iadd dL_law_874 ?_
  refine rl_arg (k := 2) dL_law_875 (nI_add i 2) (by omega) hL ?_
  refine rj_aload_n dL_law_876 0 rfl rfl ?_
  refine rj_iload_n dL_law_877 3 rfl rfl ?_
  refine rj_iconst (v := 3) dL_law_878 (by decide) ?_
  refine rj_iadd dL_law_879 ?_
  refine rl_arg (k := 3) dL_law_880 (nI_add i 3) (by omega) hL ?_
  refine rl_call1 (kc := kX10_basin) (kr := kX11_basin) (As := [.int (wS w (i + 1)), .int (wS w (i + 2)), .int (wS w (i + 3))]) ml_RL_103 mvX10_basin dL_law_881 rfl rfl rfl (by decide) hf (p_basin hI) (fun x M1 hq => ?_)
  refine rj_aload_n dL_law_884 2 rfl rfl ?_
  refine rj_aload_n dL_law_885 0 rfl rfl ?_
  refine rj_iload_n dL_law_886 3 rfl rfl ?_
  refine rj_iconst (v := 1) dL_law_887 (by decide) ?_
  refine rj_iadd dL_law_888 ?_
  refine rl_arg (k := 1) dL_law_889 (nI_add i 1) (by omega) hL ?_
  refine rj_aload_n dL_law_890 0 rfl rfl ?_
  refine rj_iload_n dL_law_891 3 rfl rfl ?_
  refine rj_iconst (v := 2) dL_law_892 (by decide) ?_
  refine rj_iadd dL_law_893 ?_
  refine rl_arg (k := 2) dL_law_894 (nI_add i 2) (by omega) hL ?_
  refine rj_aload_n dL_law_895 0 rfl rfl ?_
  refine rj_iload_n dL_law_896 3 rfl rfl ?_
  refine rj_iconst (v := 3) dL_law_897 (by decide) ?_
  refine rj_iadd dL_law_898 ?_
  refine rl_arg (k := 3) dL_law_899 (nI_add i 3) (by omega) hL ?_
  refine rl_call2 (kr := kX11_basin) (As := [.int (wS w (i + 1)), .int (wS w (i + 2)), .int (wS w (i + 3))]) ml_RL_106 mvX11_basin dL_law_900 rfl rfl rfl (by decide) hf hq (fun M2 hI2 => ?_)
  exact rj_icmp_eq (tgt := 1538) dL_law_903 (by decide) (fun _ => kk M2 hI2) (fun hc => absurd rfl hc)
theorem lc_22 (hL : wL w ≤ 3072) (hi : i + 6 ≤ wL w) (hf : ce ≤ 600000 ∧ sl ≤ 7302250) (hI : INV M) (kk : ∀ M', INV M' → RS w room_1 (kL nm) ce sl 1538 [(0, .ref 1000), (1, .ref 0), (2, .ref 59), (3, .int (nI i))] [] M' (LF w)) : RS w room_1 (kL nm) ce sl 908 [(0, .ref 1000), (1, .ref 0), (2, .ref 59), (3, .int (nI i))] [] M (LF w) := by
  refine rj_aload_n dL_law_908 1 rfl rfl ?_
  refine rj_aload_n dL_law_909 0 rfl rfl ?_
  refine rj_iload_n dL_law_910 3 rfl rfl ?_
  refine rj_iconst (v := 1) dL_law_911 (by decide) ?_
  refine rj_iadd dL_law_912 ?_
  refine rl_arg (k := 1) dL_law_913 (nI_add i 1) (by omega) hL ?_
  refine rj_aload_n dL_law_914 0 rfl rfl ?_
  refine rj_iload_n dL_law_915 3 rfl rfl ?_
  refine rj_iconst (v := 2) dL_law_916 (by decide) ?_
  refine rj_iadd dL_law_917 ?_
  refine rl_arg (k := 2) dL_law_918 (nI_add i 2) (by omega) hL ?_
  refine rl_call1 (kc := kX10_ways) (kr := kX11_ways) (As := [.int (wS w (i + 1)), .int (wS w (i + 2))]) ml_RL_107 mvX10_ways dL_law_919 rfl rfl rfl (by decide) hf (p_ways hI) (fun x M1 hq => ?_)
  refine rj_aload_n dL_law_922 2 rfl rfl ?_
  refine rj_aload_n dL_law_923 0 rfl rfl ?_
  refine rj_iload_n dL_law_924 3 rfl rfl ?_
  refine rj_iconst (v := 1) dL_law_925 (by decide) ?_
  refine rj_iadd dL_law_926 ?_
  refine rl_arg (k := 1) dL_law_927 (nI_add i 1) (by omega) hL ?_
  refine rj_aload_n dL_law_928 0 rfl rfl ?_
  refine rj_iload_n dL_law_929 3 rfl rfl ?_
  refine rj_iconst (v := 2) dL_law_930 (by decide) ?_
  refine rj_iadd dL_law_931 ?_
  refine rl_arg (k := 2) dL_law_932 (nI_add i 2) (by omega) hL ?_
  refine rl_call2 (kr := kX11_ways) (As := [.int (wS w (i + 1)), .int (wS w (i + 2))]) ml_RL_110 mvX11_ways dL_law_933 rfl rfl rfl (by decide) hf hq (fun M2 hI2 => ?_)
  exact rj_icmp_eq (tgt := 1538) dL_law_936 (by decide) (fun _ => kk M2 hI2) (fun hc => absurd rfl hc)
theorem lc_23 (hL : wL w ≤ 3072) (hi : i + 6 ≤ wL w) (hf : ce ≤ 600000 ∧ sl ≤ 7302250) (hI : INV M) (kk : ∀ M', INV M' → RS w room_1 (kL nm) ce sl 1538 [(0, .ref 1000), (1, .ref 0), (2, .ref 59), (3, .int (nI i))] [] M' (LF w)) : RS w room_1 (kL nm) ce sl 941 [(0, .ref 1000), (1, .ref 0), (2, .ref 59), (3, .int (nI i))] [] M (LF w) := by
  refine rj_aload_n dL_law_941 1 rfl rfl ?_
  refine rj_aload_n dL_law_942 0 rfl rfl ?_
  refine rj_iload_n dL_law_943 3 rfl rfl ?_
  refine rj_iconst (v := 1) dL_law_944 (by decide) ?_
  refine rj_iadd dL_law_945 ?_
  refine rl_arg (k := 1) dL_law_946 (nI_add i 1) (by omega) hL ?_
  refine rj_aload_n dL_law_947 0 rfl rfl ?_
  refine rj_iload_n dL_law_948 3 rfl rfl ?_
  refine rj_iconst (v := 2) dL_law_949 (by decide) ?_
  refine rj_iadd dL_law_950 ?_
  refine rl_arg (k := 2) dL_law_951 (nI_add i 2) (by omega) hL ?_
  refine rj_aload_n dL_law_952 0 rfl rfl ?_
  refine rj_iload_n dL_law_953 3 rfl rfl ?_
  refine rj_iconst (v := 3) dL_law_954 (by decide) ?_
  refine rj_iadd dL_law_955 ?_
  refine rl_arg (k := 3) dL_law_956 (nI_add i 3) (by omega) hL ?_
  refine rl_call1 (kc := kX10_soonest) (kr := kX11_soonest) (As := [.int (wS w (i + 1)), .int (wS w (i + 2)), .int (wS w (i + 3))]) ml_RL_111 mvX10_soonest dL_law_957 rfl rfl rfl (by decide) hf (p_soonest hI) (fun x M1 hq => ?_)
  refine rj_aload_n dL_law_960 2 rfl rfl ?_
  refine rj_aload_n dL_law_961 0 rfl rfl ?_
  refine rj_iload_n dL_law_962 3 rfl rfl ?_
  refine rj_iconst (v := 1) dL_law_963 (by decide) ?_
  refine rj_iadd dL_law_964 ?_
  refine rl_arg (k := 1) dL_law_965 (nI_add i 1) (by omega) hL ?_
  refine rj_aload_n dL_law_966 0 rfl rfl ?_
  refine rj_iload_n dL_law_967 3 rfl rfl ?_
  refine rj_iconst (v := 2) dL_law_968 (by decide) ?_
  refine rj_iadd dL_law_969 ?_
  refine rl_arg (k := 2) dL_law_970 (nI_add i 2) (by omega) hL ?_
  refine rj_aload_n dL_law_971 0 rfl rfl ?_
  refine rj_iload_n dL_law_972 3 rfl rfl ?_
  refine rj_iconst (v := 3) dL_law_973 (by decide) ?_
  refine rj_iadd dL_law_974 ?_
  refine rl_arg (k := 3) dL_law_975 (nI_add i 3) (by omega) hL ?_
  refine rl_call2 (kr := kX11_soonest) (As := [.int (wS w (i + 1)), .int (wS w (i + 2)), .int (wS w (i + 3))]) ml_RL_114 mvX11_soonest dL_law_976 rfl rfl rfl (by decide) hf hq (fun M2 hI2 => ?_)
  exact rj_icmp_eq (tgt := 1538) dL_law_979 (by decide) (fun _ => kk M2 hI2) (fun hc => absurd rfl hc)
theorem lc_24 (hL : wL w ≤ 3072) (hi : i + 6 ≤ wL w) (hf : ce ≤ 600000 ∧ sl ≤ 7302250) (hI : INV M) (kk : ∀ M', INV M' → RS w room_1 (kL nm) ce sl 1538 [(0, .ref 1000), (1, .ref 0), (2, .ref 59), (3, .int (nI i))] [] M' (LF w)) : RS w room_1 (kL nm) ce sl 984 [(0, .ref 1000), (1, .ref 0), (2, .ref 59), (3, .int (nI i))] [] M (LF w) := by
  refine rj_aload_n dL_law_984 1 rfl rfl ?_
  refine rj_aload_n dL_law_985 0 rfl rfl ?_
  refine rj_iload_n dL_law_986 3 rfl rfl ?_
  refine rj_iconst (v := 1) dL_law_987 (by decide) ?_
  refine rj_iadd dL_law_988 ?_
  refine rl_arg (k := 1) dL_law_989 (nI_add i 1) (by omega) hL ?_
  refine rj_aload_n dL_law_990 0 rfl rfl ?_
  refine rj_iload_n dL_law_991 3 rfl rfl ?_
  refine rj_iconst (v := 2) dL_law_992 (by decide) ?_
  refine rj_iadd dL_law_993 ?_
  refine rl_arg (k := 2) dL_law_994 (nI_add i 2) (by omega) hL ?_
  refine rj_aload_n dL_law_995 0 rfl rfl ?_
  refine rj_iload_n dL_law_996 3 rfl rfl ?_
  refine rj_iconst (v := 3) dL_law_997 (by decide) ?_
  refine rj_iadd dL_law_998 ?_
  refine rl_arg (k := 3) dL_law_999 (nI_add i 3) (by omega) hL ?_
  refine rj_aload_n dL_law_1000 0 rfl rfl ?_
  refine rj_iload_n dL_law_1001 3 rfl rfl ?_
  refine rj_iconst (v := 4) dL_law_1002 (by decide) ?_
  refine rj_iadd dL_law_1003 ?_
  refine rl_arg (k := 4) dL_law_1004 (nI_add i 4) (by omega) hL ?_
  refine rl_call1 (kc := kX10_meet) (kr := kX11_meet) (As := [.int (wS w (i + 1)), .int (wS w (i + 2)), .int (wS w (i + 3)), .int (wS w (i + 4))]) ml_RL_115 mvX10_meet dL_law_1005 rfl rfl rfl (by decide) hf (p_meet hI) (fun x M1 hq => ?_)
  refine rj_aload_n dL_law_1008 2 rfl rfl ?_
  refine rj_aload_n dL_law_1009 0 rfl rfl ?_
  refine rj_iload_n dL_law_1010 3 rfl rfl ?_
  refine rj_iconst (v := 1) dL_law_1011 (by decide) ?_
  refine rj_iadd dL_law_1012 ?_
  refine rl_arg (k := 1) dL_law_1013 (nI_add i 1) (by omega) hL ?_
  refine rj_aload_n dL_law_1014 0 rfl rfl ?_
  refine rj_iload_n dL_law_1015 3 rfl rfl ?_
  refine rj_iconst (v := 2) dL_law_1016 (by decide) ?_
  refine rj_iadd dL_law_1017 ?_
  refine rl_arg (k := 2) dL_law_1018 (nI_add i 2) (by omega) hL ?_
  refine rj_aload_n dL_law_1019 0 rfl rfl ?_
  refine rj_iload_n dL_law_1020 3 rfl rfl ?_
  refine rj_iconst (v := 3) dL_law_1021 (by decide) ?_
  refine rj_iadd dL_law_1022 ?_
  refine rl_arg (k := 3) dL_law_1023 (nI_add i 3) (by omega) hL ?_
  refine rj_aload_n dL_law_1024 0 rfl rfl ?_
  refine rj_iload_n dL_law_1025 3 rfl rfl ?_
  refine rj_iconst (v := 4) dL_law_1026 (by decide) ?_
  refine rj_iadd dL_law_1027 ?_
  refine rl_arg (k := 4) dL_law_1028 (nI_add i 4) (by omega) hL ?_
  refine rl_call2 (kr := kX11_meet) (As := [.int (wS w (i + 1)), .int (wS w (i + 2)), .int (wS w (i + 3)), .int (wS w (i + 4))]) ml_RL_118 mvX11_meet dL_law_1029 rfl rfl rfl (by decide) hf hq (fun M2 hI2 => ?_)
  exact rj_icmp_eq (tgt := 1538) dL_law_1032 (by decide) (fun _ => kk M2 hI2) (fun hc => absurd rfl hc)
theorem lc_25 (hL : wL w ≤ 3072) (hi : i + 6 ≤ wL w) (hf : ce ≤ 600000 ∧ sl ≤ 7302250) (hI : INV M) (kk : ∀ M', INV M' → RS w room_1 (kL nm) ce sl 1538 [(0, .ref 1000), (1, .ref 0), (2, .ref 59), (3, .int (nI i))] [] M' (LF w)) : RS w room_1 (kL nm) ce sl 1037 [(0, .ref 1000), (1, .ref 0), (2, .ref 59), (3, .int (nI i))] [] M (LF w) := by
  refine rj_aload_n dL_law_1037 1 rfl rfl ?_
  refine rj_aload_n dL_law_1038 0 rfl rfl ?_
  refine rj_iload_n dL_law_1039 3 rfl rfl ?_
  refine rj_iconst (v := 1) dL_law_1040 (by decide) ?_
  refine rj_iadd dL_law_1041 ?_
  refine rl_arg (k := 1) dL_law_1042 (nI_add i 1) (by omega) hL ?_
  refine rj_aload_n dL_law_1043 0 rfl rfl ?_
  refine rj_iload_n dL_law_1044 3 rfl rfl ?_
  refine rj_iconst (v := 2) dL_law_1045 (by decide) ?_
  refine rj_iadd dL_law_1046 ?_
  refine rl_arg (k := 2) dL_law_1047 (nI_add i 2) (by omega) hL ?_
  refine rj_aload_n dL_law_1048 0 rfl rfl ?_
  refine rj_iload_n dL_law_1049 3 rfl rfl ?_
  refine rj_iconst (v := 3) dL_law_1050 (by decide) ?_
  refine rj_iadd dL_law_1051 ?_
  refine rl_arg (k := 3) dL_law_1052 (nI_add i 3) (by omega) hL ?_
  refine rl_call1 (kc := kX10_edge) (kr := kX11_edge) (As := [.int (wS w (i + 1)), .int (wS w (i + 2)), .int (wS w (i + 3))]) ml_RL_119 mvX10_edge dL_law_1053 rfl rfl rfl (by decide) hf (p_edge hI) (fun x M1 hq => ?_)
  refine rj_aload_n dL_law_1056 2 rfl rfl ?_
  refine rj_aload_n dL_law_1057 0 rfl rfl ?_
  refine rj_iload_n dL_law_1058 3 rfl rfl ?_
  refine rj_iconst (v := 1) dL_law_1059 (by decide) ?_
  refine rj_iadd dL_law_1060 ?_
  refine rl_arg (k := 1) dL_law_1061 (nI_add i 1) (by omega) hL ?_
  refine rj_aload_n dL_law_1062 0 rfl rfl ?_
  refine rj_iload_n dL_law_1063 3 rfl rfl ?_
  refine rj_iconst (v := 2) dL_law_1064 (by decide) ?_
  refine rj_iadd dL_law_1065 ?_
  refine rl_arg (k := 2) dL_law_1066 (nI_add i 2) (by omega) hL ?_
  refine rj_aload_n dL_law_1067 0 rfl rfl ?_
  refine rj_iload_n dL_law_1068 3 rfl rfl ?_
  refine rj_iconst (v := 3) dL_law_1069 (by decide) ?_
  refine rj_iadd dL_law_1070 ?_
  refine rl_arg (k := 3) dL_law_1071 (nI_add i 3) (by omega) hL ?_
  refine rl_call2 (kr := kX11_edge) (As := [.int (wS w (i + 1)), .int (wS w (i + 2)), .int (wS w (i + 3))]) ml_RL_122 mvX11_edge dL_law_1072 rfl rfl rfl (by decide) hf hq (fun M2 hI2 => ?_)
  exact rj_icmp_eq (tgt := 1538) dL_law_1075 (by decide) (fun _ => kk M2 hI2) (fun hc => absurd rfl hc)
theorem lc_26 (hL : wL w ≤ 3072) (hi : i + 6 ≤ wL w) (hf : ce ≤ 600000 ∧ sl ≤ 7302250) (hI : INV M) (kk : ∀ M', INV M' → RS w room_1 (kL nm) ce sl 1538 [(0, .ref 1000), (1, .ref 0), (2, .ref 59), (3, .int (nI i))] [] M' (LF w)) : RS w room_1 (kL nm) ce sl 1080 [(0, .ref 1000), (1, .ref 0), (2, .ref 59), (3, .int (nI i))] [] M (LF w) := by
  refine rj_aload_n dL_law_1080 1 rfl rfl ?_
  refine rj_aload_n dL_law_1081 0 rfl rfl ?_
  refine rj_iload_n dL_law_1082 3 rfl rfl ?_
  refine rj_iconst (v := 1) dL_law_1083 (by decide) ?_
  refine rj_iadd dL_law_1084 ?_
  refine rl_arg (k := 1) dL_law_1085 (nI_add i 1) (by omega) hL ?_
  refine rl_call1 (kc := kX10_soft) (kr := kX11_soft) (As := [.int (wS w (i + 1))]) ml_RL_123 mvX10_soft dL_law_1086 rfl rfl rfl (by decide) hf (p_soft hI) (fun x M1 hq => ?_)
  refine rj_aload_n dL_law_1089 2 rfl rfl ?_
  refine rj_aload_n dL_law_1090 0 rfl rfl ?_
  refine rj_iload_n dL_law_1091 3 rfl rfl ?_
  refine rj_iconst (v := 1) dL_law_1092 (by decide) ?_
  refine rj_iadd dL_law_1093 ?_
  refine rl_arg (k := 1) dL_law_1094 (nI_add i 1) (by omega) hL ?_
  refine rl_call2 (kr := kX11_soft) (As := [.int (wS w (i + 1))]) ml_RL_126 mvX11_soft dL_law_1095 rfl rfl rfl (by decide) hf hq (fun M2 hI2 => ?_)
  exact rj_icmp_eq (tgt := 1538) dL_law_1098 (by decide) (fun _ => kk M2 hI2) (fun hc => absurd rfl hc)
theorem lc_27 (hL : wL w ≤ 3072) (hi : i + 6 ≤ wL w) (hf : ce ≤ 600000 ∧ sl ≤ 7302250) (hI : INV M) (kk : ∀ M', INV M' → RS w room_1 (kL nm) ce sl 1538 [(0, .ref 1000), (1, .ref 0), (2, .ref 59), (3, .int (nI i))] [] M' (LF w)) : RS w room_1 (kL nm) ce sl 1103 [(0, .ref 1000), (1, .ref 0), (2, .ref 59), (3, .int (nI i))] [] M (LF w) := by
  refine rj_aload_n dL_law_1103 1 rfl rfl ?_
  refine rl_call1 (kc := kX10_need) (kr := kX11_need) (As := []) ml_RL_127 mvX10_need dL_law_1104 rfl rfl rfl (by decide) hf (p_need hI) (fun x M1 hq => ?_)
  refine rj_aload_n dL_law_1107 2 rfl rfl ?_
  refine rl_call2 (kr := kX11_need) (As := []) ml_RL_130 mvX11_need dL_law_1108 rfl rfl rfl (by decide) hf hq (fun M2 hI2 => ?_)
  exact rj_icmp_eq (tgt := 1538) dL_law_1111 (by decide) (fun _ => kk M2 hI2) (fun hc => absurd rfl hc)
theorem lc_28 (hL : wL w ≤ 3072) (hi : i + 6 ≤ wL w) (hf : ce ≤ 600000 ∧ sl ≤ 7302250) (hI : INV M) (kk : ∀ M', INV M' → RS w room_1 (kL nm) ce sl 1538 [(0, .ref 1000), (1, .ref 0), (2, .ref 59), (3, .int (nI i))] [] M' (LF w)) : RS w room_1 (kL nm) ce sl 1116 [(0, .ref 1000), (1, .ref 0), (2, .ref 59), (3, .int (nI i))] [] M (LF w) := by
  refine rj_aload_n dL_law_1116 1 rfl rfl ?_
  refine rj_aload_n dL_law_1117 0 rfl rfl ?_
  refine rj_iload_n dL_law_1118 3 rfl rfl ?_
  refine rj_iconst (v := 1) dL_law_1119 (by decide) ?_
  refine rj_iadd dL_law_1120 ?_
  refine rl_arg (k := 1) dL_law_1121 (nI_add i 1) (by omega) hL ?_
  refine rj_aload_n dL_law_1122 0 rfl rfl ?_
  refine rj_iload_n dL_law_1123 3 rfl rfl ?_
  refine rj_iconst (v := 2) dL_law_1124 (by decide) ?_
  refine rj_iadd dL_law_1125 ?_
  refine rl_arg (k := 2) dL_law_1126 (nI_add i 2) (by omega) hL ?_
  refine rl_call1 (kc := kX10_open) (kr := kX11_open) (As := [.int (wS w (i + 1)), .int (wS w (i + 2))]) ml_RL_131 mvX10_open dL_law_1127 rfl rfl rfl (by decide) hf (p_open hI) (fun x M1 hq => ?_)
  refine rj_aload_n dL_law_1130 2 rfl rfl ?_
  refine rj_aload_n dL_law_1131 0 rfl rfl ?_
  refine rj_iload_n dL_law_1132 3 rfl rfl ?_
  refine rj_iconst (v := 1) dL_law_1133 (by decide) ?_
  refine rj_iadd dL_law_1134 ?_
  refine rl_arg (k := 1) dL_law_1135 (nI_add i 1) (by omega) hL ?_
  refine rj_aload_n dL_law_1136 0 rfl rfl ?_
  refine rj_iload_n dL_law_1137 3 rfl rfl ?_
  refine rj_iconst (v := 2) dL_law_1138 (by decide) ?_
  refine rj_iadd dL_law_1139 ?_
  refine rl_arg (k := 2) dL_law_1140 (nI_add i 2) (by omega) hL ?_
  refine rl_call2 (kr := kX11_open) (As := [.int (wS w (i + 1)), .int (wS w (i + 2))]) ml_RL_134 mvX11_open dL_law_1141 rfl rfl rfl (by decide) hf hq (fun M2 hI2 => ?_)
  exact rj_icmp_eq (tgt := 1538) dL_law_1144 (by decide) (fun _ => kk M2 hI2) (fun hc => absurd rfl hc)
theorem lc_29 (hL : wL w ≤ 3072) (hi : i + 6 ≤ wL w) (hf : ce ≤ 600000 ∧ sl ≤ 7302250) (hI : INV M) (kk : ∀ M', INV M' → RS w room_1 (kL nm) ce sl 1538 [(0, .ref 1000), (1, .ref 0), (2, .ref 59), (3, .int (nI i))] [] M' (LF w)) : RS w room_1 (kL nm) ce sl 1149 [(0, .ref 1000), (1, .ref 0), (2, .ref 59), (3, .int (nI i))] [] M (LF w) := by
  refine rj_aload_n dL_law_1149 1 rfl rfl ?_
  refine rj_aload_n dL_law_1150 0 rfl rfl ?_
  refine rj_iload_n dL_law_1151 3 rfl rfl ?_
  refine rj_iconst (v := 1) dL_law_1152 (by decide) ?_
  refine rj_iadd dL_law_1153 ?_
  refine rl_arg (k := 1) dL_law_1154 (nI_add i 1) (by omega) hL ?_
  refine rl_call1 (kc := kX10_seed) (kr := kX11_seed) (As := [.int (wS w (i + 1))]) ml_RL_135 mvX10_seed dL_law_1155 rfl rfl rfl (by decide) hf (p_seed hI) (fun x M1 hq => ?_)
  refine rj_aload_n dL_law_1158 2 rfl rfl ?_
  refine rj_aload_n dL_law_1159 0 rfl rfl ?_
  refine rj_iload_n dL_law_1160 3 rfl rfl ?_
  refine rj_iconst (v := 1) dL_law_1161 (by decide) ?_
  refine rj_iadd dL_law_1162 ?_
  refine rl_arg (k := 1) dL_law_1163 (nI_add i 1) (by omega) hL ?_
  refine rl_call2 (kr := kX11_seed) (As := [.int (wS w (i + 1))]) ml_RL_138 mvX11_seed dL_law_1164 rfl rfl rfl (by decide) hf hq (fun M2 hI2 => ?_)
  exact rj_icmp_eq (tgt := 1538) dL_law_1167 (by decide) (fun _ => kk M2 hI2) (fun hc => absurd rfl hc)
theorem lc_30 (hL : wL w ≤ 3072) (hi : i + 6 ≤ wL w) (hf : ce ≤ 600000 ∧ sl ≤ 7302250) (hI : INV M) (kk : ∀ M', INV M' → RS w room_1 (kL nm) ce sl 1538 [(0, .ref 1000), (1, .ref 0), (2, .ref 59), (3, .int (nI i))] [] M' (LF w)) : RS w room_1 (kL nm) ce sl 1172 [(0, .ref 1000), (1, .ref 0), (2, .ref 59), (3, .int (nI i))] [] M (LF w) := by
  refine rj_aload_n dL_law_1172 1 rfl rfl ?_
  refine rj_aload_n dL_law_1173 0 rfl rfl ?_
  refine rj_iload_n dL_law_1174 3 rfl rfl ?_
  refine rj_iconst (v := 1) dL_law_1175 (by decide) ?_
  refine rj_iadd dL_law_1176 ?_
  refine rl_arg (k := 1) dL_law_1177 (nI_add i 1) (by omega) hL ?_
  refine rj_aload_n dL_law_1178 0 rfl rfl ?_
  refine rj_iload_n dL_law_1179 3 rfl rfl ?_
  refine rj_iconst (v := 2) dL_law_1180 (by decide) ?_
  refine rj_iadd dL_law_1181 ?_
  refine rl_arg (k := 2) dL_law_1182 (nI_add i 2) (by omega) hL ?_
  refine rl_call1 (kc := kX10_hold) (kr := kX11_hold) (As := [.int (wS w (i + 1)), .int (wS w (i + 2))]) ml_RL_139 mvX10_hold dL_law_1183 rfl rfl rfl (by decide) hf (p_hold hI) (fun x M1 hq => ?_)
  refine rj_aload_n dL_law_1186 2 rfl rfl ?_
  refine rj_aload_n dL_law_1187 0 rfl rfl ?_
  refine rj_iload_n dL_law_1188 3 rfl rfl ?_
  refine rj_iconst (v := 1) dL_law_1189 (by decide) ?_
  refine rj_iadd dL_law_1190 ?_
  refine rl_arg (k := 1) dL_law_1191 (nI_add i 1) (by omega) hL ?_
  refine rj_aload_n dL_law_1192 0 rfl rfl ?_
  refine rj_iload_n dL_law_1193 3 rfl rfl ?_
  refine rj_iconst (v := 2) dL_law_1194 (by decide) ?_
  refine rj_iadd dL_law_1195 ?_
  refine rl_arg (k := 2) dL_law_1196 (nI_add i 2) (by omega) hL ?_
  refine rl_call2 (kr := kX11_hold) (As := [.int (wS w (i + 1)), .int (wS w (i + 2))]) ml_RL_142 mvX11_hold dL_law_1197 rfl rfl rfl (by decide) hf hq (fun M2 hI2 => ?_)
  exact rj_icmp_eq (tgt := 1538) dL_law_1200 (by decide) (fun _ => kk M2 hI2) (fun hc => absurd rfl hc)
theorem lc_31 (hL : wL w ≤ 3072) (hi : i + 6 ≤ wL w) (hf : ce ≤ 600000 ∧ sl ≤ 7302250) (hI : INV M) (kk : ∀ M', INV M' → RS w room_1 (kL nm) ce sl 1538 [(0, .ref 1000), (1, .ref 0), (2, .ref 59), (3, .int (nI i))] [] M' (LF w)) : RS w room_1 (kL nm) ce sl 1205 [(0, .ref 1000), (1, .ref 0), (2, .ref 59), (3, .int (nI i))] [] M (LF w) := by
  refine rj_aload_n dL_law_1205 1 rfl rfl ?_
  refine rj_aload_n dL_law_1206 0 rfl rfl ?_
  refine rj_iload_n dL_law_1207 3 rfl rfl ?_
  refine rj_iconst (v := 1) dL_law_1208 (by decide) ?_
  refine rj_iadd dL_law_1209 ?_
  refine rl_arg (k := 1) dL_law_1210 (nI_add i 1) (by omega) hL ?_
  refine rj_aload_n dL_law_1211 0 rfl rfl ?_
  refine rj_iload_n dL_law_1212 3 rfl rfl ?_
  refine rj_iconst (v := 2) dL_law_1213 (by decide) ?_
  refine rj_iadd dL_law_1214 ?_
  refine rl_arg (k := 2) dL_law_1215 (nI_add i 2) (by omega) hL ?_
  refine rl_call1 (kc := kX10_as) (kr := kX11_as) (As := [.int (wS w (i + 1)), .int (wS w (i + 2))]) ml_RL_143 mvX10_as dL_law_1216 rfl rfl rfl (by decide) hf (p_as hI) (fun x M1 hq => ?_)
  refine rj_aload_n dL_law_1219 2 rfl rfl ?_
  refine rj_aload_n dL_law_1220 0 rfl rfl ?_
  refine rj_iload_n dL_law_1221 3 rfl rfl ?_
  refine rj_iconst (v := 1) dL_law_1222 (by decide) ?_
  refine rj_iadd dL_law_1223 ?_
  refine rl_arg (k := 1) dL_law_1224 (nI_add i 1) (by omega) hL ?_
  refine rj_aload_n dL_law_1225 0 rfl rfl ?_
  refine rj_iload_n dL_law_1226 3 rfl rfl ?_
  refine rj_iconst (v := 2) dL_law_1227 (by decide) ?_
  refine rj_iadd dL_law_1228 ?_
  refine rl_arg (k := 2) dL_law_1229 (nI_add i 2) (by omega) hL ?_
  refine rl_call2 (kr := kX11_as) (As := [.int (wS w (i + 1)), .int (wS w (i + 2))]) ml_RL_146 mvX11_as dL_law_1230 rfl rfl rfl (by decide) hf hq (fun M2 hI2 => ?_)
  exact rj_icmp_eq (tgt := 1538) dL_law_1233 (by decide) (fun _ => kk M2 hI2) (fun hc => absurd rfl hc)
theorem lc_32 (hL : wL w ≤ 3072) (hi : i + 6 ≤ wL w) (hf : ce ≤ 600000 ∧ sl ≤ 7302250) (hI : INV M) (kk : ∀ M', INV M' → RS w room_1 (kL nm) ce sl 1538 [(0, .ref 1000), (1, .ref 0), (2, .ref 59), (3, .int (nI i))] [] M' (LF w)) : RS w room_1 (kL nm) ce sl 1238 [(0, .ref 1000), (1, .ref 0), (2, .ref 59), (3, .int (nI i))] [] M (LF w) := by
  refine rj_aload_n dL_law_1238 1 rfl rfl ?_
  refine rj_aload_n dL_law_1239 0 rfl rfl ?_
  refine rj_iload_n dL_law_1240 3 rfl rfl ?_
  refine rj_iconst (v := 1) dL_law_1241 (by decide) ?_
  refine rj_iadd dL_law_1242 ?_
  refine rl_arg (k := 1) dL_law_1243 (nI_add i 1) (by omega) hL ?_
  refine rj_aload_n dL_law_1244 0 rfl rfl ?_
  refine rj_iload_n dL_law_1245 3 rfl rfl ?_
  refine rj_iconst (v := 2) dL_law_1246 (by decide) ?_
  refine rj_iadd dL_law_1247 ?_
  refine rl_arg (k := 2) dL_law_1248 (nI_add i 2) (by omega) hL ?_
  refine rj_aload_n dL_law_1249 0 rfl rfl ?_
  refine rj_iload_n dL_law_1250 3 rfl rfl ?_
  refine rj_iconst (v := 3) dL_law_1251 (by decide) ?_
  refine rj_iadd dL_law_1252 ?_
  refine rl_arg (k := 3) dL_law_1253 (nI_add i 3) (by omega) hL ?_
  refine rl_call1 (kc := kX10_sheet) (kr := kX11_sheet) (As := [.int (wS w (i + 1)), .int (wS w (i + 2)), .int (wS w (i + 3))]) ml_RL_147 mvX10_sheet dL_law_1254 rfl rfl rfl (by decide) hf (p_sheet hI) (fun x M1 hq => ?_)
  refine rj_aload_n dL_law_1257 2 rfl rfl ?_
  refine rj_aload_n dL_law_1258 0 rfl rfl ?_
  refine rj_iload_n dL_law_1259 3 rfl rfl ?_
  refine rj_iconst (v := 1) dL_law_1260 (by decide) ?_
  refine rj_iadd dL_law_1261 ?_
  refine rl_arg (k := 1) dL_law_1262 (nI_add i 1) (by omega) hL ?_
  refine rj_aload_n dL_law_1263 0 rfl rfl ?_
  refine rj_iload_n dL_law_1264 3 rfl rfl ?_
  refine rj_iconst (v := 2) dL_law_1265 (by decide) ?_
  refine rj_iadd dL_law_1266 ?_
  refine rl_arg (k := 2) dL_law_1267 (nI_add i 2) (by omega) hL ?_
  refine rj_aload_n dL_law_1268 0 rfl rfl ?_
  refine rj_iload_n dL_law_1269 3 rfl rfl ?_
  refine rj_iconst (v := 3) dL_law_1270 (by decide) ?_
  refine rj_iadd dL_law_1271 ?_
  refine rl_arg (k := 3) dL_law_1272 (nI_add i 3) (by omega) hL ?_
  refine rl_call2 (kr := kX11_sheet) (As := [.int (wS w (i + 1)), .int (wS w (i + 2)), .int (wS w (i + 3))]) ml_RL_150 mvX11_sheet dL_law_1273 rfl rfl rfl (by decide) hf hq (fun M2 hI2 => ?_)
  exact rj_icmp_eq (tgt := 1538) dL_law_1276 (by decide) (fun _ => kk M2 hI2) (fun hc => absurd rfl hc)
theorem lc_33 (hL : wL w ≤ 3072) (hi : i + 6 ≤ wL w) (hf : ce ≤ 600000 ∧ sl ≤ 7302250) (hI : INV M) (kk : ∀ M', INV M' → RS w room_1 (kL nm) ce sl 1538 [(0, .ref 1000), (1, .ref 0), (2, .ref 59), (3, .int (nI i))] [] M' (LF w)) : RS w room_1 (kL nm) ce sl 1281 [(0, .ref 1000), (1, .ref 0), (2, .ref 59), (3, .int (nI i))] [] M (LF w) := by
  refine rj_aload_n dL_law_1281 1 rfl rfl ?_
  refine rj_aload_n dL_law_1282 0 rfl rfl ?_
  refine rj_iload_n dL_law_1283 3 rfl rfl ?_
  refine rj_iconst (v := 1) dL_law_1284 (by decide) ?_
  refine rj_iadd dL_law_1285 ?_
  refine rl_arg (k := 1) dL_law_1286 (nI_add i 1) (by omega) hL ?_
  refine rj_aload_n dL_law_1287 0 rfl rfl ?_
  refine rj_iload_n dL_law_1288 3 rfl rfl ?_
  refine rj_iconst (v := 2) dL_law_1289 (by decide) ?_
  refine rj_iadd dL_law_1290 ?_
  refine rl_arg (k := 2) dL_law_1291 (nI_add i 2) (by omega) hL ?_
  refine rj_aload_n dL_law_1292 0 rfl rfl ?_
  refine rj_iload_n dL_law_1293 3 rfl rfl ?_
  refine rj_iconst (v := 3) dL_law_1294 (by decide) ?_
  refine rj_iadd dL_law_1295 ?_
  refine rl_arg (k := 3) dL_law_1296 (nI_add i 3) (by omega) hL ?_
  refine rl_call1 (kc := kX10_write) (kr := kX11_write) (As := [.int (wS w (i + 1)), .int (wS w (i + 2)), .int (wS w (i + 3))]) ml_RL_151 mvX10_write dL_law_1297 rfl rfl rfl (by decide) hf (p_write hI) (fun x M1 hq => ?_)
  refine rj_aload_n dL_law_1300 2 rfl rfl ?_
  refine rj_aload_n dL_law_1301 0 rfl rfl ?_
  refine rj_iload_n dL_law_1302 3 rfl rfl ?_
  refine rj_iconst (v := 1) dL_law_1303 (by decide) ?_
  refine rj_iadd dL_law_1304 ?_
  refine rl_arg (k := 1) dL_law_1305 (nI_add i 1) (by omega) hL ?_
  refine rj_aload_n dL_law_1306 0 rfl rfl ?_
  refine rj_iload_n dL_law_1307 3 rfl rfl ?_
  refine rj_iconst (v := 2) dL_law_1308 (by decide) ?_
  refine rj_iadd dL_law_1309 ?_
  refine rl_arg (k := 2) dL_law_1310 (nI_add i 2) (by omega) hL ?_
  refine rj_aload_n dL_law_1311 0 rfl rfl ?_
  refine rj_iload_n dL_law_1312 3 rfl rfl ?_
  refine rj_iconst (v := 3) dL_law_1313 (by decide) ?_
  refine rj_iadd dL_law_1314 ?_
  refine rl_arg (k := 3) dL_law_1315 (nI_add i 3) (by omega) hL ?_
  refine rl_call2 (kr := kX11_write) (As := [.int (wS w (i + 1)), .int (wS w (i + 2)), .int (wS w (i + 3))]) ml_RL_154 mvX11_write dL_law_1316 rfl rfl rfl (by decide) hf hq (fun M2 hI2 => ?_)
  exact rj_icmp_eq (tgt := 1538) dL_law_1319 (by decide) (fun _ => kk M2 hI2) (fun hc => absurd rfl hc)
theorem lc_34 (hL : wL w ≤ 3072) (hi : i + 6 ≤ wL w) (hf : ce ≤ 600000 ∧ sl ≤ 7302250) (hI : INV M) (kk : ∀ M', INV M' → RS w room_1 (kL nm) ce sl 1538 [(0, .ref 1000), (1, .ref 0), (2, .ref 59), (3, .int (nI i))] [] M' (LF w)) : RS w room_1 (kL nm) ce sl 1324 [(0, .ref 1000), (1, .ref 0), (2, .ref 59), (3, .int (nI i))] [] M (LF w) := by
  refine rj_aload_n dL_law_1324 1 rfl rfl ?_
  refine rj_aload_n dL_law_1325 0 rfl rfl ?_
  refine rj_iload_n dL_law_1326 3 rfl rfl ?_
  refine rj_iconst (v := 1) dL_law_1327 (by decide) ?_
  refine rj_iadd dL_law_1328 ?_
  refine rl_arg (k := 1) dL_law_1329 (nI_add i 1) (by omega) hL ?_
  refine rj_aload_n dL_law_1330 0 rfl rfl ?_
  refine rj_iload_n dL_law_1331 3 rfl rfl ?_
  refine rj_iconst (v := 2) dL_law_1332 (by decide) ?_
  refine rj_iadd dL_law_1333 ?_
  refine rl_arg (k := 2) dL_law_1334 (nI_add i 2) (by omega) hL ?_
  refine rj_aload_n dL_law_1335 0 rfl rfl ?_
  refine rj_iload_n dL_law_1336 3 rfl rfl ?_
  refine rj_iconst (v := 3) dL_law_1337 (by decide) ?_
  refine rj_iadd dL_law_1338 ?_
  refine rl_arg (k := 3) dL_law_1339 (nI_add i 3) (by omega) hL ?_
  refine rj_aload_n dL_law_1340 0 rfl rfl ?_
  refine rj_iload_n dL_law_1341 3 rfl rfl ?_
  refine rj_iconst (v := 4) dL_law_1342 (by decide) ?_
  refine rj_iadd dL_law_1343 ?_
  refine rl_arg (k := 4) dL_law_1344 (nI_add i 4) (by omega) hL ?_
  refine rj_aload_n dL_law_1345 0 rfl rfl ?_
  refine rj_iload_n dL_law_1346 3 rfl rfl ?_
  refine rj_iconst (v := 5) dL_law_1347 (by decide) ?_
  refine rj_iadd dL_law_1348 ?_
  refine rl_arg (k := 5) dL_law_1349 (nI_add i 5) (by omega) hL ?_
  refine rl_call1 (kc := kX10_copy) (kr := kX11_copy) (As := [.int (wS w (i + 1)), .int (wS w (i + 2)), .int (wS w (i + 3)), .int (wS w (i + 4)), .int (wS w (i + 5))]) ml_RL_155 mvX10_copy dL_law_1350 rfl rfl rfl (by decide) hf (p_copy hI) (fun x M1 hq => ?_)
  refine rj_aload_n dL_law_1353 2 rfl rfl ?_
  refine rj_aload_n dL_law_1354 0 rfl rfl ?_
  refine rj_iload_n dL_law_1355 3 rfl rfl ?_
  refine rj_iconst (v := 1) dL_law_1356 (by decide) ?_
  refine rj_iadd dL_law_1357 ?_
  refine rl_arg (k := 1) dL_law_1358 (nI_add i 1) (by omega) hL ?_
  refine rj_aload_n dL_law_1359 0 rfl rfl ?_
  refine rj_iload_n dL_law_1360 3 rfl rfl ?_
  refine rj_iconst (v := 2) dL_law_1361 (by decide) ?_
  refine rj_iadd dL_law_1362 ?_
  refine rl_arg (k := 2) dL_law_1363 (nI_add i 2) (by omega) hL ?_
  refine rj_aload_n dL_law_1364 0 rfl rfl ?_
  refine rj_iload_n dL_law_1365 3 rfl rfl ?_
  refine rj_iconst (v := 3) dL_law_1366 (by decide) ?_
  refine rj_iadd dL_law_1367 ?_
  refine rl_arg (k := 3) dL_law_1368 (nI_add i 3) (by omega) hL ?_
  refine rj_aload_n dL_law_1369 0 rfl rfl ?_
  refine rj_iload_n dL_law_1370 3 rfl rfl ?_
  refine rj_iconst (v := 4) dL_law_1371 (by decide) ?_
  refine rj_iadd dL_law_1372 ?_
  refine rl_arg (k := 4) dL_law_1373 (nI_add i 4) (by omega) hL ?_
  refine rj_aload_n dL_law_1374 0 rfl rfl ?_
  refine rj_iload_n dL_law_1375 3 rfl rfl ?_
  refine rj_iconst (v := 5) dL_law_1376 (by decide) ?_
  refine rj_iadd dL_law_1377 ?_
  refine rl_arg (k := 5) dL_law_1378 (nI_add i 5) (by omega) hL ?_
  refine rl_call2 (kr := kX11_copy) (As := [.int (wS w (i + 1)), .int (wS w (i + 2)), .int (wS w (i + 3)), .int (wS w (i + 4)), .int (wS w (i + 5))]) ml_RL_159 mvX11_copy dL_law_1379 rfl rfl rfl (by decide) hf hq (fun M2 hI2 => ?_)
  exact rj_icmp_eq (tgt := 1538) dL_law_1382 (by decide) (fun _ => kk M2 hI2) (fun hc => absurd rfl hc)
theorem lc_35 (hL : wL w ≤ 3072) (hi : i + 6 ≤ wL w) (hf : ce ≤ 600000 ∧ sl ≤ 7302250) (hI : INV M) (kk : ∀ M', INV M' → RS w room_1 (kL nm) ce sl 1538 [(0, .ref 1000), (1, .ref 0), (2, .ref 59), (3, .int (nI i))] [] M' (LF w)) : RS w room_1 (kL nm) ce sl 1387 [(0, .ref 1000), (1, .ref 0), (2, .ref 59), (3, .int (nI i))] [] M (LF w) := by
  refine rj_aload_n dL_law_1387 1 rfl rfl ?_
  refine rj_aload_n dL_law_1388 0 rfl rfl ?_
  refine rj_iload_n dL_law_1389 3 rfl rfl ?_
  refine rj_iconst (v := 1) dL_law_1390 (by decide) ?_
  refine rj_iadd dL_law_1391 ?_
  refine rl_arg (k := 1) dL_law_1392 (nI_add i 1) (by omega) hL ?_
  refine rj_aload_n dL_law_1393 0 rfl rfl ?_
  refine rj_iload_n dL_law_1394 3 rfl rfl ?_
  refine rj_iconst (v := 2) dL_law_1395 (by decide) ?_
  refine rj_iadd dL_law_1396 ?_
  refine rl_arg (k := 2) dL_law_1397 (nI_add i 2) (by omega) hL ?_
  refine rl_call1 (kc := kX10_load) (kr := kX11_load) (As := [.int (wS w (i + 1)), .int (wS w (i + 2))]) ml_RL_160 mvX10_load dL_law_1398 rfl rfl rfl (by decide) hf (p_load hI) (fun x M1 hq => ?_)
  refine rj_aload_n dL_law_1401 2 rfl rfl ?_
  refine rj_aload_n dL_law_1402 0 rfl rfl ?_
  refine rj_iload_n dL_law_1403 3 rfl rfl ?_
  refine rj_iconst (v := 1) dL_law_1404 (by decide) ?_
  refine rj_iadd dL_law_1405 ?_
  refine rl_arg (k := 1) dL_law_1406 (nI_add i 1) (by omega) hL ?_
  refine rj_aload_n dL_law_1407 0 rfl rfl ?_
  refine rj_iload_n dL_law_1408 3 rfl rfl ?_
  refine rj_iconst (v := 2) dL_law_1409 (by decide) ?_
  refine rj_iadd dL_law_1410 ?_
  refine rl_arg (k := 2) dL_law_1411 (nI_add i 2) (by omega) hL ?_
  refine rl_call2 (kr := kX11_load) (As := [.int (wS w (i + 1)), .int (wS w (i + 2))]) ml_RL_163 mvX11_load dL_law_1412 rfl rfl rfl (by decide) hf hq (fun M2 hI2 => ?_)
  exact rj_icmp_eq (tgt := 1538) dL_law_1415 (by decide) (fun _ => kk M2 hI2) (fun hc => absurd rfl hc)
theorem lc_36 (hL : wL w ≤ 3072) (hi : i + 6 ≤ wL w) (hf : ce ≤ 600000 ∧ sl ≤ 7302250) (hI : INV M) (kk : ∀ M', INV M' → RS w room_1 (kL nm) ce sl 1538 [(0, .ref 1000), (1, .ref 0), (2, .ref 59), (3, .int (nI i))] [] M' (LF w)) : RS w room_1 (kL nm) ce sl 1420 [(0, .ref 1000), (1, .ref 0), (2, .ref 59), (3, .int (nI i))] [] M (LF w) := by
  refine rj_aload_n dL_law_1420 1 rfl rfl ?_
  refine rj_aload_n dL_law_1421 0 rfl rfl ?_
  refine rj_iload_n dL_law_1422 3 rfl rfl ?_
  refine rj_iconst (v := 1) dL_law_1423 (by decide) ?_
  refine rj_iadd dL_law_1424 ?_
  refine rl_arg (k := 1) dL_law_1425 (nI_add i 1) (by omega) hL ?_
  refine rj_aload_n dL_law_1426 0 rfl rfl ?_
  refine rj_iload_n dL_law_1427 3 rfl rfl ?_
  refine rj_iconst (v := 2) dL_law_1428 (by decide) ?_
  refine rj_iadd dL_law_1429 ?_
  refine rl_arg (k := 2) dL_law_1430 (nI_add i 2) (by omega) hL ?_
  refine rl_call1 (kc := kX10_judge) (kr := kX11_judge) (As := [.int (wS w (i + 1)), .int (wS w (i + 2))]) ml_RL_164 mvX10_judge dL_law_1431 rfl rfl rfl (by decide) hf (p_judge hI) (fun x M1 hq => ?_)
  refine rj_aload_n dL_law_1434 2 rfl rfl ?_
  refine rj_aload_n dL_law_1435 0 rfl rfl ?_
  refine rj_iload_n dL_law_1436 3 rfl rfl ?_
  refine rj_iconst (v := 1) dL_law_1437 (by decide) ?_
  refine rj_iadd dL_law_1438 ?_
  refine rl_arg (k := 1) dL_law_1439 (nI_add i 1) (by omega) hL ?_
  refine rj_aload_n dL_law_1440 0 rfl rfl ?_
  refine rj_iload_n dL_law_1441 3 rfl rfl ?_
  refine rj_iconst (v := 2) dL_law_1442 (by decide) ?_
  refine rj_iadd dL_law_1443 ?_
  refine rl_arg (k := 2) dL_law_1444 (nI_add i 2) (by omega) hL ?_
  refine rl_call2 (kr := kX11_judge) (As := [.int (wS w (i + 1)), .int (wS w (i + 2))]) ml_RL_167 mvX11_judge dL_law_1445 rfl rfl rfl (by decide) hf hq (fun M2 hI2 => ?_)
  exact rj_icmp_eq (tgt := 1538) dL_law_1448 (by decide) (fun _ => kk M2 hI2) (fun hc => absurd rfl hc)
theorem lc_37 (hL : wL w ≤ 3072) (hi : i + 6 ≤ wL w) (hf : ce ≤ 600000 ∧ sl ≤ 7302250) (hI : INV M) (kk : ∀ M', INV M' → RS w room_1 (kL nm) ce sl 1538 [(0, .ref 1000), (1, .ref 0), (2, .ref 59), (3, .int (nI i))] [] M' (LF w)) : RS w room_1 (kL nm) ce sl 1453 [(0, .ref 1000), (1, .ref 0), (2, .ref 59), (3, .int (nI i))] [] M (LF w) := by
  refine rj_aload_n dL_law_1453 1 rfl rfl ?_
  refine rl_call1 (kc := kX10_image) (kr := kX11_image) (As := []) ml_RL_168 mvX10_image dL_law_1454 rfl rfl rfl (by decide) hf (p_image hI) (fun x M1 hq => ?_)
  refine rj_aload_n dL_law_1457 2 rfl rfl ?_
  refine rl_call2 (kr := kX11_image) (As := []) ml_RL_171 mvX11_image dL_law_1458 rfl rfl rfl (by decide) hf hq (fun M2 hI2 => ?_)
  exact rj_icmp_eq (tgt := 1538) dL_law_1461 (by decide) (fun _ => kk M2 hI2) (fun hc => absurd rfl hc)
theorem lc_38 (hL : wL w ≤ 3072) (hi : i + 6 ≤ wL w) (hf : ce ≤ 600000 ∧ sl ≤ 7302250) (hI : INV M) (kk : ∀ M', INV M' → RS w room_1 (kL nm) ce sl 1538 [(0, .ref 1000), (1, .ref 0), (2, .ref 59), (3, .int (nI i))] [] M' (LF w)) : RS w room_1 (kL nm) ce sl 1466 [(0, .ref 1000), (1, .ref 0), (2, .ref 59), (3, .int (nI i))] [] M (LF w) := by
  refine rj_aload_n dL_law_1466 1 rfl rfl ?_
  refine rl_call1 (kc := kX10_undo) (kr := kX11_undo) (As := []) ml_RL_172 mvX10_undo dL_law_1467 rfl rfl rfl (by decide) hf (p_undo hI) (fun x M1 hq => ?_)
  refine rj_aload_n dL_law_1470 2 rfl rfl ?_
  refine rl_call2 (kr := kX11_undo) (As := []) ml_RL_175 mvX11_undo dL_law_1471 rfl rfl rfl (by decide) hf hq (fun M2 hI2 => ?_)
  exact rj_icmp_eq (tgt := 1538) dL_law_1474 (by decide) (fun _ => kk M2 hI2) (fun hc => absurd rfl hc)
theorem lc_39 (hL : wL w ≤ 3072) (hi : i + 6 ≤ wL w) (hf : ce ≤ 600000 ∧ sl ≤ 7302250) (hI : INV M) (kk : ∀ M', INV M' → RS w room_1 (kL nm) ce sl 1538 [(0, .ref 1000), (1, .ref 0), (2, .ref 59), (3, .int (nI i))] [] M' (LF w)) : RS w room_1 (kL nm) ce sl 1479 [(0, .ref 1000), (1, .ref 0), (2, .ref 59), (3, .int (nI i))] [] M (LF w) := by
  refine rj_aload_n dL_law_1479 1 rfl rfl ?_
  refine rl_call1 (kc := kX10_tear) (kr := kX11_tear) (As := []) ml_RL_176 mvX10_tear dL_law_1480 rfl rfl rfl (by decide) hf (p_tear hI) (fun x M1 hq => ?_)
  refine rj_aload_n dL_law_1483 2 rfl rfl ?_
  refine rl_call2 (kr := kX11_tear) (As := []) ml_RL_179 mvX11_tear dL_law_1484 rfl rfl rfl (by decide) hf hq (fun M2 hI2 => ?_)
  exact rj_icmp_eq (tgt := 1538) dL_law_1487 (by decide) (fun _ => kk M2 hI2) (fun hc => absurd rfl hc)
theorem lc_40 (hL : wL w ≤ 3072) (hi : i + 6 ≤ wL w) (hf : ce ≤ 600000 ∧ sl ≤ 7302250) (hI : INV M) (kk : ∀ M', INV M' → RS w room_1 (kL nm) ce sl 1538 [(0, .ref 1000), (1, .ref 0), (2, .ref 59), (3, .int (nI i))] [] M' (LF w)) : RS w room_1 (kL nm) ce sl 1492 [(0, .ref 1000), (1, .ref 0), (2, .ref 59), (3, .int (nI i))] [] M (LF w) := by
  refine rj_aload_n dL_law_1492 1 rfl rfl ?_
  refine rj_aload_n dL_law_1493 0 rfl rfl ?_
  refine rj_iload_n dL_law_1494 3 rfl rfl ?_
  refine rj_iconst (v := 1) dL_law_1495 (by decide) ?_
  refine rj_iadd dL_law_1496 ?_
  refine rl_arg (k := 1) dL_law_1497 (nI_add i 1) (by omega) hL ?_
  refine rl_call1 (kc := kX10_count) (kr := kX11_count) (As := [.int (wS w (i + 1))]) ml_RL_180 mvX10_count dL_law_1498 rfl rfl rfl (by decide) hf (p_count hI) (fun x M1 hq => ?_)
  refine rj_aload_n dL_law_1501 2 rfl rfl ?_
  refine rj_aload_n dL_law_1502 0 rfl rfl ?_
  refine rj_iload_n dL_law_1503 3 rfl rfl ?_
  refine rj_iconst (v := 1) dL_law_1504 (by decide) ?_
  refine rj_iadd dL_law_1505 ?_
  refine rl_arg (k := 1) dL_law_1506 (nI_add i 1) (by omega) hL ?_
  refine rl_call2 (kr := kX11_count) (As := [.int (wS w (i + 1))]) ml_RL_183 mvX11_count dL_law_1507 rfl rfl rfl (by decide) hf hq (fun M2 hI2 => ?_)
  exact rj_icmp_eq (tgt := 1538) dL_law_1510 (by decide) (fun _ => kk M2 hI2) (fun hc => absurd rfl hc)
theorem lc_41 (hL : wL w ≤ 3072) (hi : i + 6 ≤ wL w) (hf : ce ≤ 600000 ∧ sl ≤ 7302250) (hI : INV M) (kk : ∀ M', INV M' → RS w room_1 (kL nm) ce sl 1538 [(0, .ref 1000), (1, .ref 0), (2, .ref 59), (3, .int (nI i))] [] M' (LF w)) : RS w room_1 (kL nm) ce sl 1515 [(0, .ref 1000), (1, .ref 0), (2, .ref 59), (3, .int (nI i))] [] M (LF w) := by
  refine rj_aload_n dL_law_1515 1 rfl rfl ?_
  refine rj_aload_n dL_law_1516 0 rfl rfl ?_
  refine rj_iload_n dL_law_1517 3 rfl rfl ?_
  refine rj_iconst (v := 1) dL_law_1518 (by decide) ?_
  refine rj_iadd dL_law_1519 ?_
  refine rl_arg (k := 1) dL_law_1520 (nI_add i 1) (by omega) hL ?_
  refine rl_call1 (kc := kX10_status) (kr := kX11_status) (As := [.int (wS w (i + 1))]) ml_RL_184 mvX10_status dL_law_1521 rfl rfl rfl (by decide) hf (p_status hI) (fun x M1 hq => ?_)
  refine rj_aload_n dL_law_1524 2 rfl rfl ?_
  refine rj_aload_n dL_law_1525 0 rfl rfl ?_
  refine rj_iload_n dL_law_1526 3 rfl rfl ?_
  refine rj_iconst (v := 1) dL_law_1527 (by decide) ?_
  refine rj_iadd dL_law_1528 ?_
  refine rl_arg (k := 1) dL_law_1529 (nI_add i 1) (by omega) hL ?_
  refine rl_call2 (kr := kX11_status) (As := [.int (wS w (i + 1))]) ml_RL_187 mvX11_status dL_law_1530 rfl rfl rfl (by decide) hf hq (fun M2 hI2 => ?_)
  exact rj_icmp_eq (tgt := 1538) dL_law_1533 (by decide) (fun _ => kk M2 hI2) (fun hc => absurd rfl hc)
end LAWC
