/-! the law's cases, by a program (wip/gen/law.py) -/
theorem lc_blank {L : Nat} {xs : Nat → Int32} {n : Nat} {S : dS} {IX : tg_I} {JX : tg_J} {IM : tg_I} {JM : tg_J} (hL : L ≤ 3584) (hn : n + 7 ≤ L) (ho : okD S) (hx : relX S IX JX) (hm : relM S IM) (hc : ∀ (S' : dS) (IX' : tg_I) (JX' : tg_J) (IM' : tg_I) (JM' : tg_J), okD S' → relX S' IX' JX' → relM S' IM' → lr L xs 776 (zI n) [] IX' JX' IM' JM') : lr L xs 144 (zI n) [] IX JX IM JM := by
  refine l_x dL_law_144 rfl ?_
  refine l_arg 1 hn hL (by decide) dL_law_145 dL_law_146 dL_law_147 dL_law_148 dL_law_149 rfl ?_
  refine l_arg 2 hn hL (by decide) dL_law_150 dL_law_151 dL_law_152 dL_law_153 dL_law_154 rfl ?_
  refine l_arg 3 hn hL (by decide) dL_law_155 dL_law_156 dL_law_157 dL_law_158 dL_law_159 rfl ?_
  refine l_callX [xs (n + 1), xs (n + 2), xs (n + 3)] dL_law_160 kX8_blank mL_13 (by decide) rfl rfl rfl (tw_blank ho (xs (n + 1)) (xs (n + 2)) (xs (n + 3)) _ _ hx) (fun v I' J' q => ?_)
  obtain ⟨r, S', rfl, ho', hx', hm'⟩ := q
  refine ⟨r, rfl, ?_⟩
  refine l_m dL_law_163 rfl ?_
  refine l_arg 1 hn hL (by decide) dL_law_164 dL_law_165 dL_law_166 dL_law_167 dL_law_168 rfl ?_
  refine l_arg 2 hn hL (by decide) dL_law_169 dL_law_170 dL_law_171 dL_law_172 dL_law_173 rfl ?_
  refine l_arg 3 hn hL (by decide) dL_law_174 dL_law_175 dL_law_176 dL_law_177 dL_law_178 rfl ?_
  refine l_callM [xs (n + 1), xs (n + 2), xs (n + 3)] dL_law_179 kX9_blank mL_17 (by decide) rfl rfl rfl (hm' IM JM hm) (fun v I3 J3 q => ?_)
  obtain ⟨rfl, h3⟩ := q
  refine ⟨r, rfl, ?_⟩
  exact l_eq (tgt := 776) dL_law_182 (by decide) (hc S' I' J' I3 J3 ho' hx' h3)
theorem lc_edit {L : Nat} {xs : Nat → Int32} {n : Nat} {S : dS} {IX : tg_I} {JX : tg_J} {IM : tg_I} {JM : tg_J} (hL : L ≤ 3584) (hn : n + 7 ≤ L) (ho : okD S) (hx : relX S IX JX) (hm : relM S IM) (hc : ∀ (S' : dS) (IX' : tg_I) (JX' : tg_J) (IM' : tg_I) (JM' : tg_J), okD S' → relX S' IX' JX' → relM S' IM' → lr L xs 776 (zI n) [] IX' JX' IM' JM') : lr L xs 187 (zI n) [] IX JX IM JM := by
  refine l_x dL_law_187 rfl ?_
  refine l_arg 1 hn hL (by decide) dL_law_188 dL_law_189 dL_law_190 dL_law_191 dL_law_192 rfl ?_
  refine l_arg 2 hn hL (by decide) dL_law_193 dL_law_194 dL_law_195 dL_law_196 dL_law_197 rfl ?_
  refine l_bool dL_law_198 dL_law_201 dL_law_202 dL_law_205 rfl ?_
  refine l_callX [xs (n + 1), bi (!decide (xs (n + 2) = 0))] dL_law_206 kX8_edit mL_18 (by decide) rfl rfl rfl (tw_edit ho (xs (n + 1)) (!decide (xs (n + 2) = 0)) _ _ hx) (fun v I' J' q => ?_)
  obtain ⟨r, S', rfl, ho', hx', hm'⟩ := q
  refine ⟨r, rfl, ?_⟩
  refine l_m dL_law_209 rfl ?_
  refine l_arg 1 hn hL (by decide) dL_law_210 dL_law_211 dL_law_212 dL_law_213 dL_law_214 rfl ?_
  refine l_arg 2 hn hL (by decide) dL_law_215 dL_law_216 dL_law_217 dL_law_218 dL_law_219 rfl ?_
  refine l_bool dL_law_220 dL_law_223 dL_law_224 dL_law_227 rfl ?_
  refine l_callM [xs (n + 1), bi (!decide (xs (n + 2) = 0))] dL_law_228 kX9_edit mL_22 (by decide) rfl rfl rfl (hm' IM JM hm) (fun v I3 J3 q => ?_)
  obtain ⟨rfl, h3⟩ := q
  refine ⟨r, rfl, ?_⟩
  exact l_eq (tgt := 776) dL_law_231 (by decide) (hc S' I' J' I3 J3 ho' hx' h3)
theorem lc_make {L : Nat} {xs : Nat → Int32} {n : Nat} {S : dS} {IX : tg_I} {JX : tg_J} {IM : tg_I} {JM : tg_J} (hL : L ≤ 3584) (hn : n + 7 ≤ L) (ho : okD S) (hx : relX S IX JX) (hm : relM S IM) (hc : ∀ (S' : dS) (IX' : tg_I) (JX' : tg_J) (IM' : tg_I) (JM' : tg_J), okD S' → relX S' IX' JX' → relM S' IM' → lr L xs 776 (zI n) [] IX' JX' IM' JM') : lr L xs 236 (zI n) [] IX JX IM JM := by
  refine l_x dL_law_236 rfl ?_
  refine l_arg 1 hn hL (by decide) dL_law_237 dL_law_238 dL_law_239 dL_law_240 dL_law_241 rfl ?_
  refine l_arg 2 hn hL (by decide) dL_law_242 dL_law_243 dL_law_244 dL_law_245 dL_law_246 rfl ?_
  refine l_arg 3 hn hL (by decide) dL_law_247 dL_law_248 dL_law_249 dL_law_250 dL_law_251 rfl ?_
  refine l_arg 4 hn hL (by decide) dL_law_252 dL_law_253 dL_law_254 dL_law_255 dL_law_256 rfl ?_
  refine l_arg 5 hn hL (by decide) dL_law_257 dL_law_258 dL_law_259 dL_law_260 dL_law_261 rfl ?_
  refine l_arg6 hn hL dL_law_262 dL_law_263 dL_law_264 dL_law_266 dL_law_267 rfl ?_
  refine l_callX [xs (n + 1), xs (n + 2), xs (n + 3), xs (n + 4), xs (n + 5), xs (n + 6)] dL_law_268 kX8_make mL_23 (by decide) rfl rfl rfl (tw_make ho (xs (n + 1)) (xs (n + 2)) (xs (n + 3)) (xs (n + 4)) (xs (n + 5)) (xs (n + 6)) _ _ hx) (fun v I' J' q => ?_)
  obtain ⟨r, S', rfl, ho', hx', hm'⟩ := q
  refine ⟨r, rfl, ?_⟩
  refine l_m dL_law_271 rfl ?_
  refine l_arg 1 hn hL (by decide) dL_law_272 dL_law_273 dL_law_274 dL_law_275 dL_law_276 rfl ?_
  refine l_arg 2 hn hL (by decide) dL_law_277 dL_law_278 dL_law_279 dL_law_280 dL_law_281 rfl ?_
  refine l_arg 3 hn hL (by decide) dL_law_282 dL_law_283 dL_law_284 dL_law_285 dL_law_286 rfl ?_
  refine l_arg 4 hn hL (by decide) dL_law_287 dL_law_288 dL_law_289 dL_law_290 dL_law_291 rfl ?_
  refine l_arg 5 hn hL (by decide) dL_law_292 dL_law_293 dL_law_294 dL_law_295 dL_law_296 rfl ?_
  refine l_arg6 hn hL dL_law_297 dL_law_298 dL_law_299 dL_law_301 dL_law_302 rfl ?_
  refine l_callM [xs (n + 1), xs (n + 2), xs (n + 3), xs (n + 4), xs (n + 5), xs (n + 6)] dL_law_303 kX9_make mL_27 (by decide) rfl rfl rfl (hm' IM JM hm) (fun v I3 J3 q => ?_)
  obtain ⟨rfl, h3⟩ := q
  refine ⟨r, rfl, ?_⟩
  exact l_eq (tgt := 776) dL_law_306 (by decide) (hc S' I' J' I3 J3 ho' hx' h3)
theorem lc_mended {L : Nat} {xs : Nat → Int32} {n : Nat} {S : dS} {IX : tg_I} {JX : tg_J} {IM : tg_I} {JM : tg_J} (hL : L ≤ 3584) (hn : n + 7 ≤ L) (ho : okD S) (hx : relX S IX JX) (hm : relM S IM) (hc : ∀ (S' : dS) (IX' : tg_I) (JX' : tg_J) (IM' : tg_I) (JM' : tg_J), okD S' → relX S' IX' JX' → relM S' IM' → lr L xs 776 (zI n) [] IX' JX' IM' JM') : lr L xs 311 (zI n) [] IX JX IM JM := by
  refine l_x dL_law_311 rfl ?_
  refine l_callX [] dL_law_312 kX8_mended mL_28 (by decide) rfl rfl rfl (tw_mended ho _ _ hx) (fun v I' J' q => ?_)
  obtain ⟨r, S', rfl, ho', hx', hm'⟩ := q
  refine ⟨r, rfl, ?_⟩
  refine l_m dL_law_315 rfl ?_
  refine l_callM [] dL_law_316 kX9_mended mL_32 (by decide) rfl rfl rfl (hm' IM JM hm) (fun v I3 J3 q => ?_)
  obtain ⟨rfl, h3⟩ := q
  refine ⟨r, rfl, ?_⟩
  exact l_eq (tgt := 776) dL_law_319 (by decide) (hc S' I' J' I3 J3 ho' hx' h3)
theorem lc_count {L : Nat} {xs : Nat → Int32} {n : Nat} {S : dS} {IX : tg_I} {JX : tg_J} {IM : tg_I} {JM : tg_J} (hL : L ≤ 3584) (hn : n + 7 ≤ L) (ho : okD S) (hx : relX S IX JX) (hm : relM S IM) (hc : ∀ (S' : dS) (IX' : tg_I) (JX' : tg_J) (IM' : tg_I) (JM' : tg_J), okD S' → relX S' IX' JX' → relM S' IM' → lr L xs 776 (zI n) [] IX' JX' IM' JM') : lr L xs 324 (zI n) [] IX JX IM JM := by
  refine l_x dL_law_324 rfl ?_
  refine l_arg 1 hn hL (by decide) dL_law_325 dL_law_326 dL_law_327 dL_law_328 dL_law_329 rfl ?_
  refine l_callX [xs (n + 1)] dL_law_330 kX8_count mL_33 (by decide) rfl rfl rfl (tw_count ho (xs (n + 1)) _ _ hx) (fun v I' J' q => ?_)
  obtain ⟨r, S', rfl, ho', hx', hm'⟩ := q
  refine ⟨r, rfl, ?_⟩
  refine l_m dL_law_333 rfl ?_
  refine l_arg 1 hn hL (by decide) dL_law_334 dL_law_335 dL_law_336 dL_law_337 dL_law_338 rfl ?_
  refine l_callM [xs (n + 1)] dL_law_339 kX9_count mL_37 (by decide) rfl rfl rfl (hm' IM JM hm) (fun v I3 J3 q => ?_)
  obtain ⟨rfl, h3⟩ := q
  refine ⟨r, rfl, ?_⟩
  exact l_eq (tgt := 776) dL_law_342 (by decide) (hc S' I' J' I3 J3 ho' hx' h3)
theorem lc_neighbour {L : Nat} {xs : Nat → Int32} {n : Nat} {S : dS} {IX : tg_I} {JX : tg_J} {IM : tg_I} {JM : tg_J} (hL : L ≤ 3584) (hn : n + 7 ≤ L) (ho : okD S) (hx : relX S IX JX) (hm : relM S IM) (hc : ∀ (S' : dS) (IX' : tg_I) (JX' : tg_J) (IM' : tg_I) (JM' : tg_J), okD S' → relX S' IX' JX' → relM S' IM' → lr L xs 776 (zI n) [] IX' JX' IM' JM') : lr L xs 347 (zI n) [] IX JX IM JM := by
  refine l_x dL_law_347 rfl ?_
  refine l_arg 1 hn hL (by decide) dL_law_348 dL_law_349 dL_law_350 dL_law_351 dL_law_352 rfl ?_
  refine l_arg 2 hn hL (by decide) dL_law_353 dL_law_354 dL_law_355 dL_law_356 dL_law_357 rfl ?_
  refine l_callX [xs (n + 1), xs (n + 2)] dL_law_358 kX8_neighbour mL_38 (by decide) rfl rfl rfl (tw_neighbour ho (xs (n + 1)) (xs (n + 2)) _ _ hx) (fun v I' J' q => ?_)
  obtain ⟨r, S', rfl, ho', hx', hm'⟩ := q
  refine ⟨r, rfl, ?_⟩
  refine l_m dL_law_361 rfl ?_
  refine l_arg 1 hn hL (by decide) dL_law_362 dL_law_363 dL_law_364 dL_law_365 dL_law_366 rfl ?_
  refine l_arg 2 hn hL (by decide) dL_law_367 dL_law_368 dL_law_369 dL_law_370 dL_law_371 rfl ?_
  refine l_callM [xs (n + 1), xs (n + 2)] dL_law_372 kX9_neighbour mL_42 (by decide) rfl rfl rfl (hm' IM JM hm) (fun v I3 J3 q => ?_)
  obtain ⟨rfl, h3⟩ := q
  refine ⟨r, rfl, ?_⟩
  exact l_eq (tgt := 776) dL_law_375 (by decide) (hc S' I' J' I3 J3 ho' hx' h3)
theorem lc_mined {L : Nat} {xs : Nat → Int32} {n : Nat} {S : dS} {IX : tg_I} {JX : tg_J} {IM : tg_I} {JM : tg_J} (hL : L ≤ 3584) (hn : n + 7 ≤ L) (ho : okD S) (hx : relX S IX JX) (hm : relM S IM) (hc : ∀ (S' : dS) (IX' : tg_I) (JX' : tg_J) (IM' : tg_I) (JM' : tg_J), okD S' → relX S' IX' JX' → relM S' IM' → lr L xs 776 (zI n) [] IX' JX' IM' JM') : lr L xs 380 (zI n) [] IX JX IM JM := by
  refine l_x dL_law_380 rfl ?_
  refine l_arg 1 hn hL (by decide) dL_law_381 dL_law_382 dL_law_383 dL_law_384 dL_law_385 rfl ?_
  refine l_callX [xs (n + 1)] dL_law_386 kX8_mined mL_43 (by decide) rfl rfl rfl (tw_mined ho (xs (n + 1)) _ _ hx) (fun v I' J' q => ?_)
  obtain ⟨r, S', rfl, ho', hx', hm'⟩ := q
  refine ⟨r, rfl, ?_⟩
  refine l_m dL_law_389 rfl ?_
  refine l_arg 1 hn hL (by decide) dL_law_390 dL_law_391 dL_law_392 dL_law_393 dL_law_394 rfl ?_
  refine l_callM [xs (n + 1)] dL_law_395 kX9_mined mL_47 (by decide) rfl rfl rfl (hm' IM JM hm) (fun v I3 J3 q => ?_)
  obtain ⟨rfl, h3⟩ := q
  refine ⟨r, rfl, ?_⟩
  exact l_eq (tgt := 776) dL_law_398 (by decide) (hc S' I' J' I3 J3 ho' hx' h3)
theorem lc_open {L : Nat} {xs : Nat → Int32} {n : Nat} {S : dS} {IX : tg_I} {JX : tg_J} {IM : tg_I} {JM : tg_J} (hL : L ≤ 3584) (hn : n + 7 ≤ L) (ho : okD S) (hx : relX S IX JX) (hm : relM S IM) (hc : ∀ (S' : dS) (IX' : tg_I) (JX' : tg_J) (IM' : tg_I) (JM' : tg_J), okD S' → relX S' IX' JX' → relM S' IM' → lr L xs 776 (zI n) [] IX' JX' IM' JM') : lr L xs 403 (zI n) [] IX JX IM JM := by
  refine l_x dL_law_403 rfl ?_
  refine l_arg 1 hn hL (by decide) dL_law_404 dL_law_405 dL_law_406 dL_law_407 dL_law_408 rfl ?_
  refine l_callX [xs (n + 1)] dL_law_409 kX8_open mL_48 (by decide) rfl rfl rfl (tw_open ho (xs (n + 1)) _ _ hx) (fun v I' J' q => ?_)
  obtain ⟨r, S', rfl, ho', hx', hm'⟩ := q
  refine ⟨r, rfl, ?_⟩
  refine l_m dL_law_412 rfl ?_
  refine l_arg 1 hn hL (by decide) dL_law_413 dL_law_414 dL_law_415 dL_law_416 dL_law_417 rfl ?_
  refine l_callM [xs (n + 1)] dL_law_418 kX9_open mL_51 (by decide) rfl rfl rfl (hm' IM JM hm) (fun v I3 J3 q => ?_)
  obtain ⟨rfl, h3⟩ := q
  refine ⟨r, rfl, ?_⟩
  exact l_eq (tgt := 776) dL_law_421 (by decide) (hc S' I' J' I3 J3 ho' hx' h3)
theorem lc_flag {L : Nat} {xs : Nat → Int32} {n : Nat} {S : dS} {IX : tg_I} {JX : tg_J} {IM : tg_I} {JM : tg_J} (hL : L ≤ 3584) (hn : n + 7 ≤ L) (ho : okD S) (hx : relX S IX JX) (hm : relM S IM) (hc : ∀ (S' : dS) (IX' : tg_I) (JX' : tg_J) (IM' : tg_I) (JM' : tg_J), okD S' → relX S' IX' JX' → relM S' IM' → lr L xs 776 (zI n) [] IX' JX' IM' JM') : lr L xs 426 (zI n) [] IX JX IM JM := by
  refine l_x dL_law_426 rfl ?_
  refine l_arg 1 hn hL (by decide) dL_law_427 dL_law_428 dL_law_429 dL_law_430 dL_law_431 rfl ?_
  refine l_callX [xs (n + 1)] dL_law_432 kX8_flag mL_52 (by decide) rfl rfl rfl (tw_flag ho (xs (n + 1)) _ _ hx) (fun v I' J' q => ?_)
  obtain ⟨r, S', rfl, ho', hx', hm'⟩ := q
  refine ⟨r, rfl, ?_⟩
  refine l_m dL_law_435 rfl ?_
  refine l_arg 1 hn hL (by decide) dL_law_436 dL_law_437 dL_law_438 dL_law_439 dL_law_440 rfl ?_
  refine l_callM [xs (n + 1)] dL_law_441 kX9_flag mL_55 (by decide) rfl rfl rfl (hm' IM JM hm) (fun v I3 J3 q => ?_)
  obtain ⟨rfl, h3⟩ := q
  refine ⟨r, rfl, ?_⟩
  exact l_eq (tgt := 776) dL_law_444 (by decide) (hc S' I' J' I3 J3 ho' hx' h3)
theorem lc_chord {L : Nat} {xs : Nat → Int32} {n : Nat} {S : dS} {IX : tg_I} {JX : tg_J} {IM : tg_I} {JM : tg_J} (hL : L ≤ 3584) (hn : n + 7 ≤ L) (ho : okD S) (hx : relX S IX JX) (hm : relM S IM) (hc : ∀ (S' : dS) (IX' : tg_I) (JX' : tg_J) (IM' : tg_I) (JM' : tg_J), okD S' → relX S' IX' JX' → relM S' IM' → lr L xs 776 (zI n) [] IX' JX' IM' JM') : lr L xs 449 (zI n) [] IX JX IM JM := by
  refine l_x dL_law_449 rfl ?_
  refine l_arg 1 hn hL (by decide) dL_law_450 dL_law_451 dL_law_452 dL_law_453 dL_law_454 rfl ?_
  refine l_callX [xs (n + 1)] dL_law_455 kX8_chord mL_56 (by decide) rfl rfl rfl (tw_chord ho (xs (n + 1)) _ _ hx) (fun v I' J' q => ?_)
  obtain ⟨r, S', rfl, ho', hx', hm'⟩ := q
  refine ⟨r, rfl, ?_⟩
  refine l_m dL_law_458 rfl ?_
  refine l_arg 1 hn hL (by decide) dL_law_459 dL_law_460 dL_law_461 dL_law_462 dL_law_463 rfl ?_
  refine l_callM [xs (n + 1)] dL_law_464 kX9_chord mL_59 (by decide) rfl rfl rfl (hm' IM JM hm) (fun v I3 J3 q => ?_)
  obtain ⟨rfl, h3⟩ := q
  refine ⟨r, rfl, ?_⟩
  exact l_eq (tgt := 776) dL_law_467 (by decide) (hc S' I' J' I3 J3 ho' hx' h3)
theorem lc_undo {L : Nat} {xs : Nat → Int32} {n : Nat} {S : dS} {IX : tg_I} {JX : tg_J} {IM : tg_I} {JM : tg_J} (hL : L ≤ 3584) (hn : n + 7 ≤ L) (ho : okD S) (hx : relX S IX JX) (hm : relM S IM) (hc : ∀ (S' : dS) (IX' : tg_I) (JX' : tg_J) (IM' : tg_I) (JM' : tg_J), okD S' → relX S' IX' JX' → relM S' IM' → lr L xs 776 (zI n) [] IX' JX' IM' JM') : lr L xs 472 (zI n) [] IX JX IM JM := by
  refine l_x dL_law_472 rfl ?_
  refine l_callX [] dL_law_473 kX8_undo mL_60 (by decide) rfl rfl rfl (tw_undo ho _ _ hx) (fun v I' J' q => ?_)
  obtain ⟨r, S', rfl, ho', hx', hm'⟩ := q
  refine ⟨r, rfl, ?_⟩
  refine l_m dL_law_476 rfl ?_
  refine l_callM [] dL_law_477 kX9_undo mL_63 (by decide) rfl rfl rfl (hm' IM JM hm) (fun v I3 J3 q => ?_)
  obtain ⟨rfl, h3⟩ := q
  refine ⟨r, rfl, ?_⟩
  exact l_eq (tgt := 776) dL_law_480 (by decide) (hc S' I' J' I3 J3 ho' hx' h3)
theorem lc_shown {L : Nat} {xs : Nat → Int32} {n : Nat} {S : dS} {IX : tg_I} {JX : tg_J} {IM : tg_I} {JM : tg_J} (hL : L ≤ 3584) (hn : n + 7 ≤ L) (ho : okD S) (hx : relX S IX JX) (hm : relM S IM) (hc : ∀ (S' : dS) (IX' : tg_I) (JX' : tg_J) (IM' : tg_I) (JM' : tg_J), okD S' → relX S' IX' JX' → relM S' IM' → lr L xs 776 (zI n) [] IX' JX' IM' JM') : lr L xs 485 (zI n) [] IX JX IM JM := by
  refine l_x dL_law_485 rfl ?_
  refine l_arg 1 hn hL (by decide) dL_law_486 dL_law_487 dL_law_488 dL_law_489 dL_law_490 rfl ?_
  refine l_callX [xs (n + 1)] dL_law_491 kX8_shown mL_64 (by decide) rfl rfl rfl (tw_shown ho (xs (n + 1)) _ _ hx) (fun v I' J' q => ?_)
  obtain ⟨r, S', rfl, ho', hx', hm'⟩ := q
  refine ⟨r, rfl, ?_⟩
  refine l_m dL_law_494 rfl ?_
  refine l_arg 1 hn hL (by decide) dL_law_495 dL_law_496 dL_law_497 dL_law_498 dL_law_499 rfl ?_
  refine l_callM [xs (n + 1)] dL_law_500 kX9_shown mL_67 (by decide) rfl rfl rfl (hm' IM JM hm) (fun v I3 J3 q => ?_)
  obtain ⟨rfl, h3⟩ := q
  refine ⟨r, rfl, ?_⟩
  exact l_eq (tgt := 776) dL_law_503 (by decide) (hc S' I' J' I3 J3 ho' hx' h3)
theorem lc_solved {L : Nat} {xs : Nat → Int32} {n : Nat} {S : dS} {IX : tg_I} {JX : tg_J} {IM : tg_I} {JM : tg_J} (hL : L ≤ 3584) (hn : n + 7 ≤ L) (ho : okD S) (hx : relX S IX JX) (hm : relM S IM) (hc : ∀ (S' : dS) (IX' : tg_I) (JX' : tg_J) (IM' : tg_I) (JM' : tg_J), okD S' → relX S' IX' JX' → relM S' IM' → lr L xs 776 (zI n) [] IX' JX' IM' JM') : lr L xs 508 (zI n) [] IX JX IM JM := by
  refine l_x dL_law_508 rfl ?_
  refine l_callX [] dL_law_509 kX8_solved mL_68 (by decide) rfl rfl rfl (tw_solved ho _ _ hx) (fun v I' J' q => ?_)
  obtain ⟨r, S', rfl, ho', hx', hm'⟩ := q
  refine ⟨r, rfl, ?_⟩
  refine l_m dL_law_512 rfl ?_
  refine l_callM [] dL_law_513 kX9_solved mL_72 (by decide) rfl rfl rfl (hm' IM JM hm) (fun v I3 J3 q => ?_)
  obtain ⟨rfl, h3⟩ := q
  refine ⟨r, rfl, ?_⟩
  exact l_eq (tgt := 776) dL_law_516 (by decide) (hc S' I' J' I3 J3 ho' hx' h3)
theorem lc_clicks {L : Nat} {xs : Nat → Int32} {n : Nat} {S : dS} {IX : tg_I} {JX : tg_J} {IM : tg_I} {JM : tg_J} (hL : L ≤ 3584) (hn : n + 7 ≤ L) (ho : okD S) (hx : relX S IX JX) (hm : relM S IM) (hc : ∀ (S' : dS) (IX' : tg_I) (JX' : tg_J) (IM' : tg_I) (JM' : tg_J), okD S' → relX S' IX' JX' → relM S' IM' → lr L xs 776 (zI n) [] IX' JX' IM' JM') : lr L xs 521 (zI n) [] IX JX IM JM := by
  refine l_x dL_law_521 rfl ?_
  refine l_callX [] dL_law_522 kX8_clicks mL_73 (by decide) rfl rfl rfl (tw_clicks ho _ _ hx) (fun v I' J' q => ?_)
  obtain ⟨r, S', rfl, ho', hx', hm'⟩ := q
  refine ⟨r, rfl, ?_⟩
  refine l_m dL_law_525 rfl ?_
  refine l_callM [] dL_law_526 kX9_clicks mL_76 (by decide) rfl rfl rfl (hm' IM JM hm) (fun v I3 J3 q => ?_)
  obtain ⟨rfl, h3⟩ := q
  refine ⟨r, rfl, ?_⟩
  exact l_eq (tgt := 776) dL_law_529 (by decide) (hc S' I' J' I3 J3 ho' hx' h3)
theorem lc_hint {L : Nat} {xs : Nat → Int32} {n : Nat} {S : dS} {IX : tg_I} {JX : tg_J} {IM : tg_I} {JM : tg_J} (hL : L ≤ 3584) (hn : n + 7 ≤ L) (ho : okD S) (hx : relX S IX JX) (hm : relM S IM) (hc : ∀ (S' : dS) (IX' : tg_I) (JX' : tg_J) (IM' : tg_I) (JM' : tg_J), okD S' → relX S' IX' JX' → relM S' IM' → lr L xs 776 (zI n) [] IX' JX' IM' JM') : lr L xs 534 (zI n) [] IX JX IM JM := by
  refine l_x dL_law_534 rfl ?_
  refine l_arg 1 hn hL (by decide) dL_law_535 dL_law_536 dL_law_537 dL_law_538 dL_law_539 rfl ?_
  refine l_callX [xs (n + 1)] dL_law_540 kX8_hint mL_77 (by decide) rfl rfl rfl (tw_hint ho (xs (n + 1)) _ _ hx) (fun v I' J' q => ?_)
  obtain ⟨r, S', rfl, ho', hx', hm'⟩ := q
  refine ⟨r, rfl, ?_⟩
  refine l_m dL_law_543 rfl ?_
  refine l_arg 1 hn hL (by decide) dL_law_544 dL_law_545 dL_law_546 dL_law_547 dL_law_548 rfl ?_
  refine l_callM [xs (n + 1)] dL_law_549 kX9_hint mL_80 (by decide) rfl rfl rfl (hm' IM JM hm) (fun v I3 J3 q => ?_)
  obtain ⟨rfl, h3⟩ := q
  refine ⟨r, rfl, ?_⟩
  exact l_eq (tgt := 776) dL_law_552 (by decide) (hc S' I' J' I3 J3 ho' hx' h3)
theorem lc_kind {L : Nat} {xs : Nat → Int32} {n : Nat} {S : dS} {IX : tg_I} {JX : tg_J} {IM : tg_I} {JM : tg_J} (hL : L ≤ 3584) (hn : n + 7 ≤ L) (ho : okD S) (hx : relX S IX JX) (hm : relM S IM) (hc : ∀ (S' : dS) (IX' : tg_I) (JX' : tg_J) (IM' : tg_I) (JM' : tg_J), okD S' → relX S' IX' JX' → relM S' IM' → lr L xs 776 (zI n) [] IX' JX' IM' JM') : lr L xs 557 (zI n) [] IX JX IM JM := by
  refine l_x dL_law_557 rfl ?_
  refine l_callX [] dL_law_558 kX8_kind mL_81 (by decide) rfl rfl rfl (tw_kind ho _ _ hx) (fun v I' J' q => ?_)
  obtain ⟨r, S', rfl, ho', hx', hm'⟩ := q
  refine ⟨r, rfl, ?_⟩
  refine l_m dL_law_561 rfl ?_
  refine l_callM [] dL_law_562 kX9_kind mL_84 (by decide) rfl rfl rfl (hm' IM JM hm) (fun v I3 J3 q => ?_)
  obtain ⟨rfl, h3⟩ := q
  refine ⟨r, rfl, ?_⟩
  exact l_eq (tgt := 776) dL_law_565 (by decide) (hc S' I' J' I3 J3 ho' hx' h3)
theorem lc_reason {L : Nat} {xs : Nat → Int32} {n : Nat} {S : dS} {IX : tg_I} {JX : tg_J} {IM : tg_I} {JM : tg_J} (hL : L ≤ 3584) (hn : n + 7 ≤ L) (ho : okD S) (hx : relX S IX JX) (hm : relM S IM) (hc : ∀ (S' : dS) (IX' : tg_I) (JX' : tg_J) (IM' : tg_I) (JM' : tg_J), okD S' → relX S' IX' JX' → relM S' IM' → lr L xs 776 (zI n) [] IX' JX' IM' JM') : lr L xs 570 (zI n) [] IX JX IM JM := by
  refine l_x dL_law_570 rfl ?_
  refine l_arg 1 hn hL (by decide) dL_law_571 dL_law_572 dL_law_573 dL_law_574 dL_law_575 rfl ?_
  refine l_callX [xs (n + 1)] dL_law_576 kX8_reason mL_85 (by decide) rfl rfl rfl (tw_reason ho (xs (n + 1)) _ _ hx) (fun v I' J' q => ?_)
  obtain ⟨r, S', rfl, ho', hx', hm'⟩ := q
  refine ⟨r, rfl, ?_⟩
  refine l_m dL_law_579 rfl ?_
  refine l_arg 1 hn hL (by decide) dL_law_580 dL_law_581 dL_law_582 dL_law_583 dL_law_584 rfl ?_
  refine l_callM [xs (n + 1)] dL_law_585 kX9_reason mL_88 (by decide) rfl rfl rfl (hm' IM JM hm) (fun v I3 J3 q => ?_)
  obtain ⟨rfl, h3⟩ := q
  refine ⟨r, rfl, ?_⟩
  exact l_eq (tgt := 776) dL_law_588 (by decide) (hc S' I' J' I3 J3 ho' hx' h3)
theorem lc_total {L : Nat} {xs : Nat → Int32} {n : Nat} {S : dS} {IX : tg_I} {JX : tg_J} {IM : tg_I} {JM : tg_J} (hL : L ≤ 3584) (hn : n + 7 ≤ L) (ho : okD S) (hx : relX S IX JX) (hm : relM S IM) (hc : ∀ (S' : dS) (IX' : tg_I) (JX' : tg_J) (IM' : tg_I) (JM' : tg_J), okD S' → relX S' IX' JX' → relM S' IM' → lr L xs 776 (zI n) [] IX' JX' IM' JM') : lr L xs 593 (zI n) [] IX JX IM JM := by
  refine l_x dL_law_593 rfl ?_
  refine l_callX [] dL_law_594 kX8_total mL_89 (by decide) rfl rfl rfl (tw_total ho _ _ hx) (fun v I' J' q => ?_)
  obtain ⟨r, S', rfl, ho', hx', hm'⟩ := q
  refine ⟨r, rfl, ?_⟩
  refine l_m dL_law_597 rfl ?_
  refine l_callM [] dL_law_598 kX9_total mL_92 (by decide) rfl rfl rfl (hm' IM JM hm) (fun v I3 J3 q => ?_)
  obtain ⟨rfl, h3⟩ := q
  refine ⟨r, rfl, ?_⟩
  exact l_eq (tgt := 776) dL_law_601 (by decide) (hc S' I' J' I3 J3 ho' hx' h3)
theorem lc_take {L : Nat} {xs : Nat → Int32} {n : Nat} {S : dS} {IX : tg_I} {JX : tg_J} {IM : tg_I} {JM : tg_J} (hL : L ≤ 3584) (hn : n + 7 ≤ L) (ho : okD S) (hx : relX S IX JX) (hm : relM S IM) (hc : ∀ (S' : dS) (IX' : tg_I) (JX' : tg_J) (IM' : tg_I) (JM' : tg_J), okD S' → relX S' IX' JX' → relM S' IM' → lr L xs 776 (zI n) [] IX' JX' IM' JM') : lr L xs 606 (zI n) [] IX JX IM JM := by
  refine l_x dL_law_606 rfl ?_
  refine l_callX [] dL_law_607 kX8_take mL_93 (by decide) rfl rfl rfl (tw_take ho _ _ hx) (fun v I' J' q => ?_)
  obtain ⟨r, S', rfl, ho', hx', hm'⟩ := q
  refine ⟨r, rfl, ?_⟩
  refine l_m dL_law_610 rfl ?_
  refine l_callM [] dL_law_611 kX9_take mL_96 (by decide) rfl rfl rfl (hm' IM JM hm) (fun v I3 J3 q => ?_)
  obtain ⟨rfl, h3⟩ := q
  refine ⟨r, rfl, ?_⟩
  exact l_eq (tgt := 776) dL_law_614 (by decide) (hc S' I' J' I3 J3 ho' hx' h3)
theorem lc_tell {L : Nat} {xs : Nat → Int32} {n : Nat} {S : dS} {IX : tg_I} {JX : tg_J} {IM : tg_I} {JM : tg_J} (hL : L ≤ 3584) (hn : n + 7 ≤ L) (ho : okD S) (hx : relX S IX JX) (hm : relM S IM) (hc : ∀ (S' : dS) (IX' : tg_I) (JX' : tg_J) (IM' : tg_I) (JM' : tg_J), okD S' → relX S' IX' JX' → relM S' IM' → lr L xs 776 (zI n) [] IX' JX' IM' JM') : lr L xs 619 (zI n) [] IX JX IM JM := by
  refine l_x dL_law_619 rfl ?_
  refine l_arg 1 hn hL (by decide) dL_law_620 dL_law_621 dL_law_622 dL_law_623 dL_law_624 rfl ?_
  refine l_arg 2 hn hL (by decide) dL_law_625 dL_law_626 dL_law_627 dL_law_628 dL_law_629 rfl ?_
  refine l_bool dL_law_630 dL_law_633 dL_law_634 dL_law_637 rfl ?_
  refine l_callX [xs (n + 1), bi (!decide (xs (n + 2) = 0))] dL_law_638 kX8_tell mL_97 (by decide) rfl rfl rfl (tw_tell ho (xs (n + 1)) (!decide (xs (n + 2) = 0)) _ _ hx) (fun v I' J' q => ?_)
  obtain ⟨r, S', rfl, ho', hx', hm'⟩ := q
  refine ⟨r, rfl, ?_⟩
  refine l_m dL_law_641 rfl ?_
  refine l_arg 1 hn hL (by decide) dL_law_642 dL_law_643 dL_law_644 dL_law_645 dL_law_646 rfl ?_
  refine l_arg 2 hn hL (by decide) dL_law_647 dL_law_648 dL_law_649 dL_law_650 dL_law_651 rfl ?_
  refine l_bool dL_law_652 dL_law_655 dL_law_656 dL_law_659 rfl ?_
  refine l_callM [xs (n + 1), bi (!decide (xs (n + 2) = 0))] dL_law_660 kX9_tell mL_100 (by decide) rfl rfl rfl (hm' IM JM hm) (fun v I3 J3 q => ?_)
  obtain ⟨rfl, h3⟩ := q
  refine ⟨r, rfl, ?_⟩
  exact l_eq (tgt := 776) dL_law_663 (by decide) (hc S' I' J' I3 J3 ho' hx' h3)
theorem lc_name {L : Nat} {xs : Nat → Int32} {n : Nat} {S : dS} {IX : tg_I} {JX : tg_J} {IM : tg_I} {JM : tg_J} (hL : L ≤ 3584) (hn : n + 7 ≤ L) (ho : okD S) (hx : relX S IX JX) (hm : relM S IM) (hc : ∀ (S' : dS) (IX' : tg_I) (JX' : tg_J) (IM' : tg_I) (JM' : tg_J), okD S' → relX S' IX' JX' → relM S' IM' → lr L xs 776 (zI n) [] IX' JX' IM' JM') : lr L xs 668 (zI n) [] IX JX IM JM := by
  refine l_x dL_law_668 rfl ?_
  refine l_arg 1 hn hL (by decide) dL_law_669 dL_law_670 dL_law_671 dL_law_672 dL_law_673 rfl ?_
  refine l_bool dL_law_674 dL_law_677 dL_law_678 dL_law_681 rfl ?_
  refine l_callX [bi (!decide (xs (n + 1) = 0))] dL_law_682 kX8_name mL_101 (by decide) rfl rfl rfl (tw_name ho (!decide (xs (n + 1) = 0)) _ _ hx) (fun v I' J' q => ?_)
  obtain ⟨r, S', rfl, ho', hx', hm'⟩ := q
  refine ⟨r, rfl, ?_⟩
  refine l_m dL_law_685 rfl ?_
  refine l_arg 1 hn hL (by decide) dL_law_686 dL_law_687 dL_law_688 dL_law_689 dL_law_690 rfl ?_
  refine l_bool dL_law_691 dL_law_694 dL_law_695 dL_law_698 rfl ?_
  refine l_callM [bi (!decide (xs (n + 1) = 0))] dL_law_699 kX9_name mL_105 (by decide) rfl rfl rfl (hm' IM JM hm) (fun v I3 J3 q => ?_)
  obtain ⟨rfl, h3⟩ := q
  refine ⟨r, rfl, ?_⟩
  exact l_eq (tgt := 776) dL_law_702 (by decide) (hc S' I' J' I3 J3 ho' hx' h3)
theorem lc_check {L : Nat} {xs : Nat → Int32} {n : Nat} {S : dS} {IX : tg_I} {JX : tg_J} {IM : tg_I} {JM : tg_J} (hL : L ≤ 3584) (hn : n + 7 ≤ L) (ho : okD S) (hx : relX S IX JX) (hm : relM S IM) (hc : ∀ (S' : dS) (IX' : tg_I) (JX' : tg_J) (IM' : tg_I) (JM' : tg_J), okD S' → relX S' IX' JX' → relM S' IM' → lr L xs 776 (zI n) [] IX' JX' IM' JM') : lr L xs 707 (zI n) [] IX JX IM JM := by
  refine l_x dL_law_707 rfl ?_
  refine l_arg 1 hn hL (by decide) dL_law_708 dL_law_709 dL_law_710 dL_law_711 dL_law_712 rfl ?_
  refine l_arg 2 hn hL (by decide) dL_law_713 dL_law_714 dL_law_715 dL_law_716 dL_law_717 rfl ?_
  refine l_callX [xs (n + 1), xs (n + 2)] dL_law_718 kX8_check mL_106 (by decide) rfl rfl rfl (tw_check ho (xs (n + 1)) (xs (n + 2)) _ _ hx) (fun v I' J' q => ?_)
  obtain ⟨r, S', rfl, ho', hx', hm'⟩ := q
  refine ⟨r, rfl, ?_⟩
  refine l_m dL_law_721 rfl ?_
  refine l_arg 1 hn hL (by decide) dL_law_722 dL_law_723 dL_law_724 dL_law_725 dL_law_726 rfl ?_
  refine l_arg 2 hn hL (by decide) dL_law_727 dL_law_728 dL_law_729 dL_law_730 dL_law_731 rfl ?_
  refine l_callM [xs (n + 1), xs (n + 2)] dL_law_732 kX9_check mL_109 (by decide) rfl rfl rfl (hm' IM JM hm) (fun v I3 J3 q => ?_)
  obtain ⟨rfl, h3⟩ := q
  refine ⟨r, rfl, ?_⟩
  exact l_eq (tgt := 776) dL_law_735 (by decide) (hc S' I' J' I3 J3 ho' hx' h3)
theorem lc_ways {L : Nat} {xs : Nat → Int32} {n : Nat} {S : dS} {IX : tg_I} {JX : tg_J} {IM : tg_I} {JM : tg_J} (hL : L ≤ 3584) (hn : n + 7 ≤ L) (ho : okD S) (hx : relX S IX JX) (hm : relM S IM) (hc : ∀ (S' : dS) (IX' : tg_I) (JX' : tg_J) (IM' : tg_I) (JM' : tg_J), okD S' → relX S' IX' JX' → relM S' IM' → lr L xs 776 (zI n) [] IX' JX' IM' JM') : lr L xs 740 (zI n) [] IX JX IM JM := by
  refine l_x dL_law_740 rfl ?_
  refine l_callX [] dL_law_741 kX8_ways mL_110 (by decide) rfl rfl rfl (tw_ways ho _ _ hx) (fun v I' J' q => ?_)
  obtain ⟨r, S', rfl, ho', hx', hm'⟩ := q
  refine ⟨r, rfl, ?_⟩
  refine l_m dL_law_744 rfl ?_
  refine l_callM [] dL_law_745 kX9_ways mL_113 (by decide) rfl rfl rfl (hm' IM JM hm) (fun v I3 J3 q => ?_)
  obtain ⟨rfl, h3⟩ := q
  refine ⟨r, rfl, ?_⟩
  exact l_eq (tgt := 776) dL_law_748 (by decide) (hc S' I' J' I3 J3 ho' hx' h3)
theorem lc_with {L : Nat} {xs : Nat → Int32} {n : Nat} {S : dS} {IX : tg_I} {JX : tg_J} {IM : tg_I} {JM : tg_J} (hL : L ≤ 3584) (hn : n + 7 ≤ L) (ho : okD S) (hx : relX S IX JX) (hm : relM S IM) (hc : ∀ (S' : dS) (IX' : tg_I) (JX' : tg_J) (IM' : tg_I) (JM' : tg_J), okD S' → relX S' IX' JX' → relM S' IM' → lr L xs 776 (zI n) [] IX' JX' IM' JM') : lr L xs 753 (zI n) [] IX JX IM JM := by
  refine l_x dL_law_753 rfl ?_
  refine l_arg 1 hn hL (by decide) dL_law_754 dL_law_755 dL_law_756 dL_law_757 dL_law_758 rfl ?_
  refine l_callX [xs (n + 1)] dL_law_759 kX8_with mL_114 (by decide) rfl rfl rfl (tw_with ho (xs (n + 1)) _ _ hx) (fun v I' J' q => ?_)
  obtain ⟨r, S', rfl, ho', hx', hm'⟩ := q
  refine ⟨r, rfl, ?_⟩
  refine l_m dL_law_762 rfl ?_
  refine l_arg 1 hn hL (by decide) dL_law_763 dL_law_764 dL_law_765 dL_law_766 dL_law_767 rfl ?_
  refine l_callM [xs (n + 1)] dL_law_768 kX9_with mL_117 (by decide) rfl rfl rfl (hm' IM JM hm) (fun v I3 J3 q => ?_)
  obtain ⟨rfl, h3⟩ := q
  refine ⟨r, rfl, ?_⟩
  exact l_eq (tgt := 776) dL_law_771 (by decide) (hc S' I' J' I3 J3 ho' hx' h3)
theorem l_body {L : Nat} {xs : Nat → Int32} {n : Nat} {S : dS} {IX : tg_I} {JX : tg_J} {IM : tg_I} {JM : tg_J} (hL : L ≤ 3584) (hn : n + 7 ≤ L) (ho : okD S) (hx : relX S IX JX) (hm : relM S IM) (hc : ∀ (S' : dS) (IX' : tg_I) (JX' : tg_J) (IM' : tg_I) (JM' : tg_J), okD S' → relX S' IX' JX' → relM S' IM' → lr L xs 776 (zI n) [] IX' JX' IM' JM') : lr L xs 27 (zI n) [] IX JX IM JM := by
  refine l_b dL_law_27 rfl (l_i dL_law_28 rfl (l_ald (by omega) hL dL_law_29 rfl (l_bipush (v := 31) dL_law_30 (by decide) rfl (l_iand dL_law_32 rfl ?_))))
  generalize xs n &&& 31 = y
  by_cases c : y.toInt < 0 ∨ 23 < y.toInt
  · exact l_out (tgt := 776) dL_law_33 c (by decide) (hc S IX JX IM JM ho hx hm)
  · have c2 : y.toInt = 0 ∨ y.toInt = 1 ∨ y.toInt = 2 ∨ y.toInt = 3 ∨ y.toInt = 4 ∨ y.toInt = 5 ∨ y.toInt = 6 ∨ y.toInt = 7 ∨ y.toInt = 8 ∨ y.toInt = 9 ∨ y.toInt = 10 ∨ y.toInt = 11 ∨ y.toInt = 12 ∨ y.toInt = 13 ∨ y.toInt = 14 ∨ y.toInt = 15 ∨ y.toInt = 16 ∨ y.toInt = 17 ∨ y.toInt = 18 ∨ y.toInt = 19 ∨ y.toInt = 20 ∨ y.toInt = 21 ∨ y.toInt = 22 ∨ y.toInt = 23 := by omega
    rcases c2 with e | e | e | e | e | e | e | e | e | e | e | e | e | e | e | e | e | e | e | e | e | e | e | e
    · exact l_in (tgt := 144) dL_law_33 e (by decide) (by decide) rfl (by decide) (lc_blank hL hn ho hx hm hc)
    · exact l_in (tgt := 187) dL_law_33 e (by decide) (by decide) rfl (by decide) (lc_edit hL hn ho hx hm hc)
    · exact l_in (tgt := 236) dL_law_33 e (by decide) (by decide) rfl (by decide) (lc_make hL hn ho hx hm hc)
    · exact l_in (tgt := 311) dL_law_33 e (by decide) (by decide) rfl (by decide) (lc_mended hL hn ho hx hm hc)
    · exact l_in (tgt := 324) dL_law_33 e (by decide) (by decide) rfl (by decide) (lc_count hL hn ho hx hm hc)
    · exact l_in (tgt := 347) dL_law_33 e (by decide) (by decide) rfl (by decide) (lc_neighbour hL hn ho hx hm hc)
    · exact l_in (tgt := 380) dL_law_33 e (by decide) (by decide) rfl (by decide) (lc_mined hL hn ho hx hm hc)
    · exact l_in (tgt := 403) dL_law_33 e (by decide) (by decide) rfl (by decide) (lc_open hL hn ho hx hm hc)
    · exact l_in (tgt := 426) dL_law_33 e (by decide) (by decide) rfl (by decide) (lc_flag hL hn ho hx hm hc)
    · exact l_in (tgt := 449) dL_law_33 e (by decide) (by decide) rfl (by decide) (lc_chord hL hn ho hx hm hc)
    · exact l_in (tgt := 472) dL_law_33 e (by decide) (by decide) rfl (by decide) (lc_undo hL hn ho hx hm hc)
    · exact l_in (tgt := 485) dL_law_33 e (by decide) (by decide) rfl (by decide) (lc_shown hL hn ho hx hm hc)
    · exact l_in (tgt := 508) dL_law_33 e (by decide) (by decide) rfl (by decide) (lc_solved hL hn ho hx hm hc)
    · exact l_in (tgt := 521) dL_law_33 e (by decide) (by decide) rfl (by decide) (lc_clicks hL hn ho hx hm hc)
    · exact l_in (tgt := 534) dL_law_33 e (by decide) (by decide) rfl (by decide) (lc_hint hL hn ho hx hm hc)
    · exact l_in (tgt := 557) dL_law_33 e (by decide) (by decide) rfl (by decide) (lc_kind hL hn ho hx hm hc)
    · exact l_in (tgt := 570) dL_law_33 e (by decide) (by decide) rfl (by decide) (lc_reason hL hn ho hx hm hc)
    · exact l_in (tgt := 593) dL_law_33 e (by decide) (by decide) rfl (by decide) (lc_total hL hn ho hx hm hc)
    · exact l_in (tgt := 606) dL_law_33 e (by decide) (by decide) rfl (by decide) (lc_take hL hn ho hx hm hc)
    · exact l_in (tgt := 619) dL_law_33 e (by decide) (by decide) rfl (by decide) (lc_tell hL hn ho hx hm hc)
    · exact l_in (tgt := 668) dL_law_33 e (by decide) (by decide) rfl (by decide) (lc_name hL hn ho hx hm hc)
    · exact l_in (tgt := 707) dL_law_33 e (by decide) (by decide) rfl (by decide) (lc_check hL hn ho hx hm hc)
    · exact l_in (tgt := 740) dL_law_33 e (by decide) (by decide) rfl (by decide) (lc_ways hL hn ho hx hm hc)
    · exact l_in (tgt := 753) dL_law_33 e (by decide) (by decide) rfl (by decide) (lc_with hL hn ho hx hm hc)
theorem l_loop {L : Nat} {xs : Nat → Int32} (hL : L ≤ 3584) : ∀ (f n : Nat) (S : dS) (IX : tg_I) (JX : tg_J) (IM : tg_I) (JM : tg_J), L < n + f → n ≤ L → okD S → relX S IX JX → relM S IM → lr L xs 18 (zI n) [] IX JX IM JM
  | 0, n, S, IX, JX, IM, JM, hf, hn, ho, hx, hm => absurd hf (by omega)
  | f + 1, n, S, IX, JX, IM, JM, hf, hn, ho, hx, hm => by
    refine l_i dL_law_18 rfl (l_b dL_law_19 rfl (l_len dL_law_20 rfl (l_bipush (v := zI 7) dL_law_21 (by decide) rfl (l_isub dL_law_23 rfl ?_))))
    rw [z_sub]
    refine l_gt (tgt := 782) dL_law_24 (by decide) rfl (fun _ => l_end dL_law_782 dL_law_783) (fun c => ?_)
    rw [z_lt (by omega) (by omega) (by omega) (by omega)] at c
    refine l_body hL (by omega) ho hx hm (fun S' IX' JX' IM' JM' ho' hx' hm' => ?_)
    refine l_iinc dL_law_776 rfl (l_goto (tgt := 18) dL_law_779 (by decide) ?_)
    exact l_loop hL f (n + 7) S' IX' JX' IM' JM' (by omega) (by omega) ho' hx' hm'
