-- THE LAW: its cases
/-- the script: it lies at the name (70, 0) -/
def gh_Sc (wd : gh_Wd) (b L : Nat) (xs : Nat → Int32) (x : gh_X) : Prop := va_X b L xs x.2.2.2.2.1 x.2.2.2.2.1.heap ∧ b < x.2.2.2.2.1.heap.size ∧ ¬ gh_A wd b ∧ wd.2.1 70 0 = b
theorem gh_sld {mi : gh_MI} {d : Nat} {wd : gh_Wd} {x : gh_X} {M : gh_M} {pc pc' b L : Nat} {xs : Nat → Int32} {LL : List (Option gh_V)} {S : List gh_V} {i : Int32} (hX : gh_Sc wd b L xs x) (hd : gh_at mi pc (.iaload) 1 pc') (hi : vp_in i L) (k' : gh_J mi d wd x M pc' LL (vI (xs i.toNatClampNeg) :: S)) : gh_J mi d wd x M pc LL (vI i :: vR 70 0 :: S) := by
  obtain ⟨p, l, e, R, s, m, args, below, meth, c, cells, slots, Q⟩ := x
  obtain ⟨hd, rfl⟩ := hd
  obtain ⟨h1, h2, h3, h4⟩ := hX
  intro hC H locs ls hP hS hL
  have e9 : gh_tv wd (vR 70 0) = .ref b := by show Value.ref (wd.2.1 70 0) = _; rw [h4]
  rw [List.map_cons, List.map_cons, e9]
  exact va_sld hC.1 hC.2.1 h1 h2 h3 hS hi hd (k' hC H locs ls hP hS hL)
theorem gh_slen {mi : gh_MI} {d : Nat} {wd : gh_Wd} {x : gh_X} {M : gh_M} {pc pc' b L : Nat} {xs : Nat → Int32} {LL : List (Option gh_V)} {S : List gh_V} (hX : gh_Sc wd b L xs x) (hd : gh_at mi pc (.arraylength) 1 pc') (k' : gh_J mi d wd x M pc' LL (vI (nI L) :: S)) : gh_J mi d wd x M pc LL (vR 70 0 :: S) := by
  obtain ⟨p, l, e, R, s, m, args, below, meth, c, cells, slots, Q⟩ := x
  obtain ⟨hd, rfl⟩ := hd
  obtain ⟨h1, h2, h3, h4⟩ := hX
  intro hC H locs ls hP hS hL
  have e9 : gh_tv wd (vR 70 0) = .ref b := by show Value.ref (wd.2.1 70 0) = _; rw [h4]
  rw [List.map_cons, e9]
  exact va_slen hC.1 hC.2.1 h1 h2 h3 hS hd (k' hC H locs ls hP hS hL)
abbrev lwL (i : Nat) : List (Option gh_V) := [some (vR 70 0), some (vR 0 0), some (vR 32 0), some (vI (nI i))]
theorem lw_vp {i j L : Nat} (h : i + 7 ≤ L) (hL : L ≤ 3584) (hj : j < 7) : vp_in (nI i + nI j) L := by
  rw [nI_add]
  exact vp_in_nI (by omega) (by omega)
theorem lc_row {wd : gh_Wd} {x : gh_X} {M : gh_M} {b L : Nat} {xs : Nat → Int32} {i : Nat} (hX : gh_Sc wd b L xs x) (hi : i + 7 ≤ L) (hL : L ≤ 3584) (hO : OKn M) (hN : ∀ M', OKn M' → gh_J mi_law 1000 wd x M' 1491 (lwL i) []) : gh_J mi_law 1000 wd x M 208 (lwL i) [] := by
  obtain ⟨S, hC, hR⟩ := hO
  refine gh_aload_n dl_208 rfl ?_
  refine gh_aload_n dl_209 rfl ?_
  refine gh_iload_n dl_210 rfl ?_
  refine gh_iconst dl_211 (v := nI 1) (by decide) ?_
  refine gh_iadd dl_212 ?_
  refine gh_sld hX dl_213 (lw_vp hi hL (by decide)) ?_
  refine gh_aload_n dl_214 rfl ?_
  refine gh_iload_n dl_215 rfl ?_
  refine gh_iconst dl_216 (v := nI 2) (by decide) ?_
  refine gh_iadd dl_217 ?_
  refine gh_sld hX dl_218 (lw_vp hi hL (by decide)) ?_
  refine gh_aload_n dl_219 rfl ?_
  refine gh_iload_n dl_220 rfl ?_
  refine gh_iconst dl_221 (v := nI 3) (by decide) ?_
  refine gh_iadd dl_222 ?_
  refine gh_sld hX dl_223 (lw_vp hi hL (by decide)) ?_
  have hw := L_row (a0 := (xs (nI i + nI 1).toNatClampNeg)) (a1 := (xs (nI i + nI 2).toNatClampNeg)) (a2 := (xs (nI i + nI 3).toNatClampNeg)) hC hR
  refine gh_callVi (mi' := mi_X6_row) (as := [vI (xs (nI i + nI 1).toNatClampNeg), vI (xs (nI i + nI 2).toNatClampNeg), vI (xs (nI i + nI 3).toNatClampNeg)]) (S := []) (k := 0) (t := 0) dl_224 (Or.inl bl_271) ok_X6_row rfl rfl (by decide) (Nat.le_of_ble_eq_true rfl) (by decide) (by decide) rfl rfl (wk_X6_row _ _ _ _ _ hw) (fun r1 M1 hw => ?_)
  refine gh_aload_n dl_227 rfl ?_
  refine gh_aload_n dl_228 rfl ?_
  refine gh_iload_n dl_229 rfl ?_
  refine gh_iconst dl_230 (v := nI 1) (by decide) ?_
  refine gh_iadd dl_231 ?_
  refine gh_sld hX dl_232 (lw_vp hi hL (by decide)) ?_
  refine gh_aload_n dl_233 rfl ?_
  refine gh_iload_n dl_234 rfl ?_
  refine gh_iconst dl_235 (v := nI 2) (by decide) ?_
  refine gh_iadd dl_236 ?_
  refine gh_sld hX dl_237 (lw_vp hi hL (by decide)) ?_
  refine gh_aload_n dl_238 rfl ?_
  refine gh_iload_n dl_239 rfl ?_
  refine gh_iconst dl_240 (v := nI 3) (by decide) ?_
  refine gh_iadd dl_241 ?_
  refine gh_sld hX dl_242 (lw_vp hi hL (by decide)) ?_
  refine gh_callVi (mi' := mi_X7_row) (as := [vI (xs (nI i + nI 1).toNatClampNeg), vI (xs (nI i + nI 2).toNatClampNeg), vI (xs (nI i + nI 3).toNatClampNeg)]) (S := [vI r1]) (k := 32) (t := 0) dl_243 (Or.inl bl_888) ok_X7_row rfl rfl (by decide) (Nat.le_of_ble_eq_true rfl) (by decide) (by decide) rfl rfl (wk_X7_row _ _ _ _ _ hw) (fun r2 M2 hw => ?_)
  obtain ⟨e, hO2⟩ := hw
  exact gh_icmp_eq (tgt := 1491) dl_246 rfl (fun _ => hN M2 hO2) (fun h => absurd e h)
theorem lc_set {wd : gh_Wd} {x : gh_X} {M : gh_M} {b L : Nat} {xs : Nat → Int32} {i : Nat} (hX : gh_Sc wd b L xs x) (hi : i + 7 ≤ L) (hL : L ≤ 3584) (hO : OKn M) (hN : ∀ M', OKn M' → gh_J mi_law 1000 wd x M' 1491 (lwL i) []) : gh_J mi_law 1000 wd x M 251 (lwL i) [] := by
  obtain ⟨S, hC, hR⟩ := hO
  refine gh_aload_n dl_251 rfl ?_
  refine gh_aload_n dl_252 rfl ?_
  refine gh_iload_n dl_253 rfl ?_
  refine gh_iconst dl_254 (v := nI 1) (by decide) ?_
  refine gh_iadd dl_255 ?_
  refine gh_sld hX dl_256 (lw_vp hi hL (by decide)) ?_
  refine gh_aload_n dl_257 rfl ?_
  refine gh_iload_n dl_258 rfl ?_
  refine gh_iconst dl_259 (v := nI 2) (by decide) ?_
  refine gh_iadd dl_260 ?_
  refine gh_sld hX dl_261 (lw_vp hi hL (by decide)) ?_
  refine gh_aload_n dl_262 rfl ?_
  refine gh_iload_n dl_263 rfl ?_
  refine gh_iconst dl_264 (v := nI 3) (by decide) ?_
  refine gh_iadd dl_265 ?_
  refine gh_sld hX dl_266 (lw_vp hi hL (by decide)) ?_
  have hw := L_set (a0 := (xs (nI i + nI 1).toNatClampNeg)) (a1 := (xs (nI i + nI 2).toNatClampNeg)) (a2 := (xs (nI i + nI 3).toNatClampNeg)) hC hR
  refine gh_callVi (mi' := mi_X6_set) (as := [vI (xs (nI i + nI 1).toNatClampNeg), vI (xs (nI i + nI 2).toNatClampNeg), vI (xs (nI i + nI 3).toNatClampNeg)]) (S := []) (k := 0) (t := 0) dl_267 (Or.inl bl_298) ok_X6_set rfl rfl (by decide) (Nat.le_of_ble_eq_true rfl) (by decide) (by decide) rfl rfl (wk_X6_set _ _ _ _ _ hw) (fun r1 M1 hw => ?_)
  refine gh_aload_n dl_270 rfl ?_
  refine gh_aload_n dl_271 rfl ?_
  refine gh_iload_n dl_272 rfl ?_
  refine gh_iconst dl_273 (v := nI 1) (by decide) ?_
  refine gh_iadd dl_274 ?_
  refine gh_sld hX dl_275 (lw_vp hi hL (by decide)) ?_
  refine gh_aload_n dl_276 rfl ?_
  refine gh_iload_n dl_277 rfl ?_
  refine gh_iconst dl_278 (v := nI 2) (by decide) ?_
  refine gh_iadd dl_279 ?_
  refine gh_sld hX dl_280 (lw_vp hi hL (by decide)) ?_
  refine gh_aload_n dl_281 rfl ?_
  refine gh_iload_n dl_282 rfl ?_
  refine gh_iconst dl_283 (v := nI 3) (by decide) ?_
  refine gh_iadd dl_284 ?_
  refine gh_sld hX dl_285 (lw_vp hi hL (by decide)) ?_
  refine gh_callVi (mi' := mi_X7_set) (as := [vI (xs (nI i + nI 1).toNatClampNeg), vI (xs (nI i + nI 2).toNatClampNeg), vI (xs (nI i + nI 3).toNatClampNeg)]) (S := [vI r1]) (k := 32) (t := 0) dl_286 (Or.inl bl_908) ok_X7_set rfl rfl (by decide) (Nat.le_of_ble_eq_true rfl) (by decide) (by decide) rfl rfl (wk_X7_set _ _ _ _ _ hw) (fun r2 M2 hw => ?_)
  obtain ⟨e, hO2⟩ := hw
  exact gh_icmp_eq (tgt := 1491) dl_289 rfl (fun _ => hN M2 hO2) (fun h => absurd e h)
theorem lc_copy {wd : gh_Wd} {x : gh_X} {M : gh_M} {b L : Nat} {xs : Nat → Int32} {i : Nat} (hX : gh_Sc wd b L xs x) (hi : i + 7 ≤ L) (hL : L ≤ 3584) (hO : OKn M) (hN : ∀ M', OKn M' → gh_J mi_law 1000 wd x M' 1491 (lwL i) []) : gh_J mi_law 1000 wd x M 294 (lwL i) [] := by
  obtain ⟨S, hC, hR⟩ := hO
  refine gh_aload_n dl_294 rfl ?_
  refine gh_aload_n dl_295 rfl ?_
  refine gh_iload_n dl_296 rfl ?_
  refine gh_iconst dl_297 (v := nI 1) (by decide) ?_
  refine gh_iadd dl_298 ?_
  refine gh_sld hX dl_299 (lw_vp hi hL (by decide)) ?_
  refine gh_aload_n dl_300 rfl ?_
  refine gh_iload_n dl_301 rfl ?_
  refine gh_iconst dl_302 (v := nI 2) (by decide) ?_
  refine gh_iadd dl_303 ?_
  refine gh_sld hX dl_304 (lw_vp hi hL (by decide)) ?_
  refine gh_aload_n dl_305 rfl ?_
  refine gh_iload_n dl_306 rfl ?_
  refine gh_iconst dl_307 (v := nI 3) (by decide) ?_
  refine gh_iadd dl_308 ?_
  refine gh_sld hX dl_309 (lw_vp hi hL (by decide)) ?_
  refine gh_aload_n dl_310 rfl ?_
  refine gh_iload_n dl_311 rfl ?_
  refine gh_iconst dl_312 (v := nI 4) (by decide) ?_
  refine gh_iadd dl_313 ?_
  refine gh_sld hX dl_314 (lw_vp hi hL (by decide)) ?_
  refine gh_aload_n dl_315 rfl ?_
  refine gh_iload_n dl_316 rfl ?_
  refine gh_iconst dl_317 (v := nI 5) (by decide) ?_
  refine gh_iadd dl_318 ?_
  refine gh_sld hX dl_319 (lw_vp hi hL (by decide)) ?_
  have hw := L_copy (a0 := (xs (nI i + nI 1).toNatClampNeg)) (a1 := (xs (nI i + nI 2).toNatClampNeg)) (a2 := (xs (nI i + nI 3).toNatClampNeg)) (a3 := (xs (nI i + nI 4).toNatClampNeg)) (a4 := (xs (nI i + nI 5).toNatClampNeg)) hC hR
  refine gh_callVi (mi' := mi_X6_copy) (as := [vI (xs (nI i + nI 1).toNatClampNeg), vI (xs (nI i + nI 2).toNatClampNeg), vI (xs (nI i + nI 3).toNatClampNeg), vI (xs (nI i + nI 4).toNatClampNeg), vI (xs (nI i + nI 5).toNatClampNeg)]) (S := []) (k := 0) (t := 0) dl_320 (Or.inl bl_306) ok_X6_copy rfl rfl (by decide) (Nat.le_of_ble_eq_true rfl) (by decide) (by decide) rfl rfl (wk_X6_copy _ _ _ _ _ _ _ hw) (fun r1 M1 hw => ?_)
  refine gh_aload_n dl_323 rfl ?_
  refine gh_aload_n dl_324 rfl ?_
  refine gh_iload_n dl_325 rfl ?_
  refine gh_iconst dl_326 (v := nI 1) (by decide) ?_
  refine gh_iadd dl_327 ?_
  refine gh_sld hX dl_328 (lw_vp hi hL (by decide)) ?_
  refine gh_aload_n dl_329 rfl ?_
  refine gh_iload_n dl_330 rfl ?_
  refine gh_iconst dl_331 (v := nI 2) (by decide) ?_
  refine gh_iadd dl_332 ?_
  refine gh_sld hX dl_333 (lw_vp hi hL (by decide)) ?_
  refine gh_aload_n dl_334 rfl ?_
  refine gh_iload_n dl_335 rfl ?_
  refine gh_iconst dl_336 (v := nI 3) (by decide) ?_
  refine gh_iadd dl_337 ?_
  refine gh_sld hX dl_338 (lw_vp hi hL (by decide)) ?_
  refine gh_aload_n dl_339 rfl ?_
  refine gh_iload_n dl_340 rfl ?_
  refine gh_iconst dl_341 (v := nI 4) (by decide) ?_
  refine gh_iadd dl_342 ?_
  refine gh_sld hX dl_343 (lw_vp hi hL (by decide)) ?_
  refine gh_aload_n dl_344 rfl ?_
  refine gh_iload_n dl_345 rfl ?_
  refine gh_iconst dl_346 (v := nI 5) (by decide) ?_
  refine gh_iadd dl_347 ?_
  refine gh_sld hX dl_348 (lw_vp hi hL (by decide)) ?_
  refine gh_callVi (mi' := mi_X7_copy) (as := [vI (xs (nI i + nI 1).toNatClampNeg), vI (xs (nI i + nI 2).toNatClampNeg), vI (xs (nI i + nI 3).toNatClampNeg), vI (xs (nI i + nI 4).toNatClampNeg), vI (xs (nI i + nI 5).toNatClampNeg)]) (S := [vI r1]) (k := 32) (t := 0) dl_349 (Or.inl bl_912) ok_X7_copy rfl rfl (by decide) (Nat.le_of_ble_eq_true rfl) (by decide) (by decide) rfl rfl (wk_X7_copy _ _ _ _ _ _ _ hw) (fun r2 M2 hw => ?_)
  obtain ⟨e, hO2⟩ := hw
  exact gh_icmp_eq (tgt := 1491) dl_352 rfl (fun _ => hN M2 hO2) (fun h => absurd e h)
theorem lc_drop {wd : gh_Wd} {x : gh_X} {M : gh_M} {b L : Nat} {xs : Nat → Int32} {i : Nat} (hX : gh_Sc wd b L xs x) (hi : i + 7 ≤ L) (hL : L ≤ 3584) (hO : OKn M) (hN : ∀ M', OKn M' → gh_J mi_law 1000 wd x M' 1491 (lwL i) []) : gh_J mi_law 1000 wd x M 357 (lwL i) [] := by
  obtain ⟨S, hC, hR⟩ := hO
  refine gh_aload_n dl_357 rfl ?_
  refine gh_aload_n dl_358 rfl ?_
  refine gh_iload_n dl_359 rfl ?_
  refine gh_iconst dl_360 (v := nI 1) (by decide) ?_
  refine gh_iadd dl_361 ?_
  refine gh_sld hX dl_362 (lw_vp hi hL (by decide)) ?_
  have hw := L_drop (a0 := (xs (nI i + nI 1).toNatClampNeg)) hC hR
  refine gh_callVi (mi' := mi_X6_drop) (as := [vI (xs (nI i + nI 1).toNatClampNeg)]) (S := []) (k := 0) (t := 0) dl_363 (Or.inl bl_317) ok_X6_drop rfl rfl (by decide) (Nat.le_of_ble_eq_true rfl) (by decide) (by decide) rfl rfl (wk_X6_drop _ _ _ hw) (fun r1 M1 hw => ?_)
  refine gh_aload_n dl_366 rfl ?_
  refine gh_aload_n dl_367 rfl ?_
  refine gh_iload_n dl_368 rfl ?_
  refine gh_iconst dl_369 (v := nI 1) (by decide) ?_
  refine gh_iadd dl_370 ?_
  refine gh_sld hX dl_371 (lw_vp hi hL (by decide)) ?_
  refine gh_callVi (mi' := mi_X7_drop) (as := [vI (xs (nI i + nI 1).toNatClampNeg)]) (S := [vI r1]) (k := 32) (t := 0) dl_372 (Or.inl bl_920) ok_X7_drop rfl rfl (by decide) (Nat.le_of_ble_eq_true rfl) (by decide) (by decide) rfl rfl (wk_X7_drop _ _ _ hw) (fun r2 M2 hw => ?_)
  obtain ⟨e, hO2⟩ := hw
  exact gh_icmp_eq (tgt := 1491) dl_375 rfl (fun _ => hN M2 hO2) (fun h => absurd e h)
theorem lc_feed {wd : gh_Wd} {x : gh_X} {M : gh_M} {b L : Nat} {xs : Nat → Int32} {i : Nat} (hX : gh_Sc wd b L xs x) (hi : i + 7 ≤ L) (hL : L ≤ 3584) (hO : OKn M) (hN : ∀ M', OKn M' → gh_J mi_law 1000 wd x M' 1491 (lwL i) []) : gh_J mi_law 1000 wd x M 380 (lwL i) [] := by
  obtain ⟨S, hC, hR⟩ := hO
  refine gh_aload_n dl_380 rfl ?_
  refine gh_aload_n dl_381 rfl ?_
  refine gh_iload_n dl_382 rfl ?_
  refine gh_iconst dl_383 (v := nI 1) (by decide) ?_
  refine gh_iadd dl_384 ?_
  refine gh_sld hX dl_385 (lw_vp hi hL (by decide)) ?_
  have hw := L_feed (a0 := (xs (nI i + nI 1).toNatClampNeg)) hC hR
  refine gh_callVi (mi' := mi_X6_feed) (as := [vI (xs (nI i + nI 1).toNatClampNeg)]) (S := []) (k := 0) (t := 0) dl_386 (Or.inl bl_321) ok_X6_feed rfl rfl (by decide) (Nat.le_of_ble_eq_true rfl) (by decide) (by decide) rfl rfl (wk_X6_feed _ _ _ hw) (fun r1 M1 hw => ?_)
  refine gh_aload_n dl_389 rfl ?_
  refine gh_aload_n dl_390 rfl ?_
  refine gh_iload_n dl_391 rfl ?_
  refine gh_iconst dl_392 (v := nI 1) (by decide) ?_
  refine gh_iadd dl_393 ?_
  refine gh_sld hX dl_394 (lw_vp hi hL (by decide)) ?_
  refine gh_callVi (mi' := mi_X7_feed) (as := [vI (xs (nI i + nI 1).toNatClampNeg)]) (S := [vI r1]) (k := 32) (t := 0) dl_395 (Or.inl bl_924) ok_X7_feed rfl rfl (by decide) (Nat.le_of_ble_eq_true rfl) (by decide) (by decide) rfl rfl (wk_X7_feed _ _ _ hw) (fun r2 M2 hw => ?_)
  obtain ⟨e, hO2⟩ := hw
  exact gh_icmp_eq (tgt := 1491) dl_398 rfl (fun _ => hN M2 hO2) (fun h => absurd e h)
theorem lc_train {wd : gh_Wd} {x : gh_X} {M : gh_M} {b L : Nat} {xs : Nat → Int32} {i : Nat} (hX : gh_Sc wd b L xs x) (hi : i + 7 ≤ L) (hL : L ≤ 3584) (hO : OKn M) (hN : ∀ M', OKn M' → gh_J mi_law 1000 wd x M' 1491 (lwL i) []) : gh_J mi_law 1000 wd x M 403 (lwL i) [] := by
  obtain ⟨S, hC, hR⟩ := hO
  refine gh_aload_n dl_403 rfl ?_
  have hw := L_train  hC hR
  refine gh_callVi (mi' := mi_X6_train) (as := []) (S := []) (k := 0) (t := 0) dl_404 (Or.inl bl_326) ok_X6_train rfl rfl (by decide) (Nat.le_of_ble_eq_true rfl) (by decide) (by decide) rfl rfl (wk_X6_train _ _ hw) (fun r1 M1 hw => ?_)
  refine gh_aload_n dl_407 rfl ?_
  refine gh_callVi (mi' := mi_X7_train) (as := []) (S := [vI r1]) (k := 32) (t := 0) dl_408 (Or.inl bl_929) ok_X7_train rfl rfl (by decide) (Nat.le_of_ble_eq_true rfl) (by decide) (by decide) rfl rfl (wk_X7_train _ _ hw) (fun r2 M2 hw => ?_)
  obtain ⟨e, hO2⟩ := hw
  exact gh_icmp_eq (tgt := 1491) dl_411 rfl (fun _ => hN M2 hO2) (fun h => absurd e h)
theorem lc_fault {wd : gh_Wd} {x : gh_X} {M : gh_M} {b L : Nat} {xs : Nat → Int32} {i : Nat} (hX : gh_Sc wd b L xs x) (hi : i + 7 ≤ L) (hL : L ≤ 3584) (hO : OKn M) (hN : ∀ M', OKn M' → gh_J mi_law 1000 wd x M' 1491 (lwL i) []) : gh_J mi_law 1000 wd x M 416 (lwL i) [] := by
  obtain ⟨S, hC, hR⟩ := hO
  refine gh_aload_n dl_416 rfl ?_
  have hw := L_fault  hC hR
  refine gh_callVi (mi' := mi_X6_fault) (as := []) (S := []) (k := 0) (t := 0) dl_417 (Or.inl bl_394) ok_X6_fault rfl rfl (by decide) (Nat.le_of_ble_eq_true rfl) (by decide) (by decide) rfl rfl (wk_X6_fault _ _ hw) (fun r1 M1 hw => ?_)
  refine gh_aload_n dl_420 rfl ?_
  refine gh_callVi (mi' := mi_X7_fault) (as := []) (S := [vI r1]) (k := 32) (t := 0) dl_421 (Or.inl bl_983) ok_X7_fault rfl rfl (by decide) (Nat.le_of_ble_eq_true rfl) (by decide) (by decide) rfl rfl (wk_X7_fault _ _ hw) (fun r2 M2 hw => ?_)
  obtain ⟨e, hO2⟩ := hw
  exact gh_icmp_eq (tgt := 1491) dl_424 rfl (fun _ => hN M2 hO2) (fun h => absurd e h)
theorem lc_undo {wd : gh_Wd} {x : gh_X} {M : gh_M} {b L : Nat} {xs : Nat → Int32} {i : Nat} (hX : gh_Sc wd b L xs x) (hi : i + 7 ≤ L) (hL : L ≤ 3584) (hO : OKn M) (hN : ∀ M', OKn M' → gh_J mi_law 1000 wd x M' 1491 (lwL i) []) : gh_J mi_law 1000 wd x M 429 (lwL i) [] := by
  obtain ⟨S, hC, hR⟩ := hO
  refine gh_aload_n dl_429 rfl ?_
  have hw := L_undo  hC hR
  refine gh_callVi (mi' := mi_X6_undo) (as := []) (S := []) (k := 0) (t := 0) dl_430 (Or.inl bl_398) ok_X6_undo rfl rfl (by decide) (Nat.le_of_ble_eq_true rfl) (by decide) (by decide) rfl rfl (wk_X6_undo _ _ hw) (fun r1 M1 hw => ?_)
  refine gh_aload_n dl_433 rfl ?_
  refine gh_callVi (mi' := mi_X7_undo) (as := []) (S := [vI r1]) (k := 32) (t := 0) dl_434 (Or.inl bl_987) ok_X7_undo rfl rfl (by decide) (Nat.le_of_ble_eq_true rfl) (by decide) (by decide) rfl rfl (wk_X7_undo _ _ hw) (fun r2 M2 hw => ?_)
  obtain ⟨e, hO2⟩ := hw
  exact gh_icmp_eq (tgt := 1491) dl_437 rfl (fun _ => hN M2 hO2) (fun h => absurd e h)
theorem lc_ticks {wd : gh_Wd} {x : gh_X} {M : gh_M} {b L : Nat} {xs : Nat → Int32} {i : Nat} (hX : gh_Sc wd b L xs x) (hi : i + 7 ≤ L) (hL : L ≤ 3584) (hO : OKn M) (hN : ∀ M', OKn M' → gh_J mi_law 1000 wd x M' 1491 (lwL i) []) : gh_J mi_law 1000 wd x M 442 (lwL i) [] := by
  obtain ⟨S, hC, hR⟩ := hO
  refine gh_aload_n dl_442 rfl ?_
  refine gh_aload_n dl_443 rfl ?_
  refine gh_iload_n dl_444 rfl ?_
  refine gh_iconst dl_445 (v := nI 1) (by decide) ?_
  refine gh_iadd dl_446 ?_
  refine gh_sld hX dl_447 (lw_vp hi hL (by decide)) ?_
  have hw := L_ticks (a0 := (xs (nI i + nI 1).toNatClampNeg)) hC hR
  refine gh_callVi (mi' := mi_X6_ticks) (as := [vI (xs (nI i + nI 1).toNatClampNeg)]) (S := []) (k := 0) (t := 0) dl_448 (Or.inl bl_408) ok_X6_ticks rfl rfl (by decide) (Nat.le_of_ble_eq_true rfl) (by decide) (by decide) rfl rfl (wk_X6_ticks _ _ _ hw) (fun r1 M1 hw => ?_)
  refine gh_aload_n dl_451 rfl ?_
  refine gh_aload_n dl_452 rfl ?_
  refine gh_iload_n dl_453 rfl ?_
  refine gh_iconst dl_454 (v := nI 1) (by decide) ?_
  refine gh_iadd dl_455 ?_
  refine gh_sld hX dl_456 (lw_vp hi hL (by decide)) ?_
  refine gh_callVi (mi' := mi_X7_ticks) (as := [vI (xs (nI i + nI 1).toNatClampNeg)]) (S := [vI r1]) (k := 32) (t := 0) dl_457 (Or.inl bl_992) ok_X7_ticks rfl rfl (by decide) (Nat.le_of_ble_eq_true rfl) (by decide) (by decide) rfl rfl (wk_X7_ticks _ _ _ hw) (fun r2 M2 hw => ?_)
  obtain ⟨e, hO2⟩ := hw
  exact gh_icmp_eq (tgt := 1491) dl_460 rfl (fun _ => hN M2 hO2) (fun h => absurd e h)
theorem lc_place {wd : gh_Wd} {x : gh_X} {M : gh_M} {b L : Nat} {xs : Nat → Int32} {i : Nat} (hX : gh_Sc wd b L xs x) (hi : i + 7 ≤ L) (hL : L ≤ 3584) (hO : OKn M) (hN : ∀ M', OKn M' → gh_J mi_law 1000 wd x M' 1491 (lwL i) []) : gh_J mi_law 1000 wd x M 465 (lwL i) [] := by
  obtain ⟨S, hC, hR⟩ := hO
  refine gh_aload_n dl_465 rfl ?_
  refine gh_aload_n dl_466 rfl ?_
  refine gh_iload_n dl_467 rfl ?_
  refine gh_iconst dl_468 (v := nI 1) (by decide) ?_
  refine gh_iadd dl_469 ?_
  refine gh_sld hX dl_470 (lw_vp hi hL (by decide)) ?_
  refine gh_aload_n dl_471 rfl ?_
  refine gh_iload_n dl_472 rfl ?_
  refine gh_iconst dl_473 (v := nI 2) (by decide) ?_
  refine gh_iadd dl_474 ?_
  refine gh_sld hX dl_475 (lw_vp hi hL (by decide)) ?_
  have hw := L_place (a0 := (xs (nI i + nI 1).toNatClampNeg)) (a1 := (xs (nI i + nI 2).toNatClampNeg)) hC hR
  refine gh_callVi (mi' := mi_X6_place) (as := [vI (xs (nI i + nI 1).toNatClampNeg), vI (xs (nI i + nI 2).toNatClampNeg)]) (S := []) (k := 0) (t := 0) dl_476 (Or.inl bl_457) ok_X6_place rfl rfl (by decide) (Nat.le_of_ble_eq_true rfl) (by decide) (by decide) rfl rfl (wk_X6_place _ _ _ _ hw) (fun r1 M1 hw => ?_)
  refine gh_aload_n dl_479 rfl ?_
  refine gh_aload_n dl_480 rfl ?_
  refine gh_iload_n dl_481 rfl ?_
  refine gh_iconst dl_482 (v := nI 1) (by decide) ?_
  refine gh_iadd dl_483 ?_
  refine gh_sld hX dl_484 (lw_vp hi hL (by decide)) ?_
  refine gh_aload_n dl_485 rfl ?_
  refine gh_iload_n dl_486 rfl ?_
  refine gh_iconst dl_487 (v := nI 2) (by decide) ?_
  refine gh_iadd dl_488 ?_
  refine gh_sld hX dl_489 (lw_vp hi hL (by decide)) ?_
  refine gh_callVi (mi' := mi_X7_place) (as := [vI (xs (nI i + nI 1).toNatClampNeg), vI (xs (nI i + nI 2).toNatClampNeg)]) (S := [vI r1]) (k := 32) (t := 0) dl_490 (Or.inl bl_1037) ok_X7_place rfl rfl (by decide) (Nat.le_of_ble_eq_true rfl) (by decide) (by decide) rfl rfl (wk_X7_place _ _ _ _ hw) (fun r2 M2 hw => ?_)
  obtain ⟨e, hO2⟩ := hw
  exact gh_icmp_eq (tgt := 1491) dl_493 rfl (fun _ => hN M2 hO2) (fun h => absurd e h)
theorem lc_flip {wd : gh_Wd} {x : gh_X} {M : gh_M} {b L : Nat} {xs : Nat → Int32} {i : Nat} (hX : gh_Sc wd b L xs x) (hi : i + 7 ≤ L) (hL : L ≤ 3584) (hO : OKn M) (hN : ∀ M', OKn M' → gh_J mi_law 1000 wd x M' 1491 (lwL i) []) : gh_J mi_law 1000 wd x M 498 (lwL i) [] := by
  obtain ⟨S, hC, hR⟩ := hO
  refine gh_aload_n dl_498 rfl ?_
  refine gh_aload_n dl_499 rfl ?_
  refine gh_iload_n dl_500 rfl ?_
  refine gh_iconst dl_501 (v := nI 1) (by decide) ?_
  refine gh_iadd dl_502 ?_
  refine gh_sld hX dl_503 (lw_vp hi hL (by decide)) ?_
  have hw := L_flip (a0 := (xs (nI i + nI 1).toNatClampNeg)) hC hR
  refine gh_callVi (mi' := mi_X6_flip) (as := [vI (xs (nI i + nI 1).toNatClampNeg)]) (S := []) (k := 0) (t := 0) dl_504 (Or.inl bl_469) ok_X6_flip rfl rfl (by decide) (Nat.le_of_ble_eq_true rfl) (by decide) (by decide) rfl rfl (wk_X6_flip _ _ _ hw) (fun r1 M1 hw => ?_)
  refine gh_aload_n dl_507 rfl ?_
  refine gh_aload_n dl_508 rfl ?_
  refine gh_iload_n dl_509 rfl ?_
  refine gh_iconst dl_510 (v := nI 1) (by decide) ?_
  refine gh_iadd dl_511 ?_
  refine gh_sld hX dl_512 (lw_vp hi hL (by decide)) ?_
  refine gh_callVi (mi' := mi_X7_flip) (as := [vI (xs (nI i + nI 1).toNatClampNeg)]) (S := [vI r1]) (k := 32) (t := 0) dl_513 (Or.inl bl_1049) ok_X7_flip rfl rfl (by decide) (Nat.le_of_ble_eq_true rfl) (by decide) (by decide) rfl rfl (wk_X7_flip _ _ _ hw) (fun r2 M2 hw => ?_)
  obtain ⟨e, hO2⟩ := hw
  exact gh_icmp_eq (tgt := 1491) dl_516 rfl (fun _ => hN M2 hO2) (fun h => absurd e h)
theorem lc_nerve {wd : gh_Wd} {x : gh_X} {M : gh_M} {b L : Nat} {xs : Nat → Int32} {i : Nat} (hX : gh_Sc wd b L xs x) (hi : i + 7 ≤ L) (hL : L ≤ 3584) (hO : OKn M) (hN : ∀ M', OKn M' → gh_J mi_law 1000 wd x M' 1491 (lwL i) []) : gh_J mi_law 1000 wd x M 521 (lwL i) [] := by
  obtain ⟨S, hC, hR⟩ := hO
  refine gh_aload_n dl_521 rfl ?_
  refine gh_aload_n dl_522 rfl ?_
  refine gh_iload_n dl_523 rfl ?_
  refine gh_iconst dl_524 (v := nI 1) (by decide) ?_
  refine gh_iadd dl_525 ?_
  refine gh_sld hX dl_526 (lw_vp hi hL (by decide)) ?_
  refine gh_aload_n dl_527 rfl ?_
  refine gh_iload_n dl_528 rfl ?_
  refine gh_iconst dl_529 (v := nI 2) (by decide) ?_
  refine gh_iadd dl_530 ?_
  refine gh_sld hX dl_531 (lw_vp hi hL (by decide)) ?_
  have hw := L_nerve (a0 := (xs (nI i + nI 1).toNatClampNeg)) (a1 := (xs (nI i + nI 2).toNatClampNeg)) hC hR
  refine gh_callVi (mi' := mi_X6_nerve) (as := [vI (xs (nI i + nI 1).toNatClampNeg), vI (xs (nI i + nI 2).toNatClampNeg)]) (S := []) (k := 0) (t := 0) dl_532 (Or.inl bl_476) ok_X6_nerve rfl rfl (by decide) (Nat.le_of_ble_eq_true rfl) (by decide) (by decide) rfl rfl (wk_X6_nerve _ _ _ _ hw) (fun r1 M1 hw => ?_)
  refine gh_aload_n dl_535 rfl ?_
  refine gh_aload_n dl_536 rfl ?_
  refine gh_iload_n dl_537 rfl ?_
  refine gh_iconst dl_538 (v := nI 1) (by decide) ?_
  refine gh_iadd dl_539 ?_
  refine gh_sld hX dl_540 (lw_vp hi hL (by decide)) ?_
  refine gh_aload_n dl_541 rfl ?_
  refine gh_iload_n dl_542 rfl ?_
  refine gh_iconst dl_543 (v := nI 2) (by decide) ?_
  refine gh_iadd dl_544 ?_
  refine gh_sld hX dl_545 (lw_vp hi hL (by decide)) ?_
  refine gh_callVi (mi' := mi_X7_nerve) (as := [vI (xs (nI i + nI 1).toNatClampNeg), vI (xs (nI i + nI 2).toNatClampNeg)]) (S := [vI r1]) (k := 32) (t := 0) dl_546 (Or.inl bl_1053) ok_X7_nerve rfl rfl (by decide) (Nat.le_of_ble_eq_true rfl) (by decide) (by decide) rfl rfl (wk_X7_nerve _ _ _ _ hw) (fun r2 M2 hw => ?_)
  obtain ⟨e, hO2⟩ := hw
  exact gh_icmp_eq (tgt := 1491) dl_549 rfl (fun _ => hN M2 hO2) (fun h => absurd e h)
theorem lc_again {wd : gh_Wd} {x : gh_X} {M : gh_M} {b L : Nat} {xs : Nat → Int32} {i : Nat} (hX : gh_Sc wd b L xs x) (hi : i + 7 ≤ L) (hL : L ≤ 3584) (hO : OKn M) (hN : ∀ M', OKn M' → gh_J mi_law 1000 wd x M' 1491 (lwL i) []) : gh_J mi_law 1000 wd x M 554 (lwL i) [] := by
  obtain ⟨S, hC, hR⟩ := hO
  refine gh_aload_n dl_554 rfl ?_
  refine gh_aload_n dl_555 rfl ?_
  refine gh_iload_n dl_556 rfl ?_
  refine gh_iconst dl_557 (v := nI 1) (by decide) ?_
  refine gh_iadd dl_558 ?_
  refine gh_sld hX dl_559 (lw_vp hi hL (by decide)) ?_
  have hw := L_again (a0 := (xs (nI i + nI 1).toNatClampNeg)) hC hR
  refine gh_callVi (mi' := mi_X6_again) (as := [vI (xs (nI i + nI 1).toNatClampNeg)]) (S := []) (k := 0) (t := 0) dl_560 (Or.inl bl_484) ok_X6_again rfl rfl (by decide) (Nat.le_of_ble_eq_true rfl) (by decide) (by decide) rfl rfl (wk_X6_again _ _ _ hw) (fun r1 M1 hw => ?_)
  refine gh_aload_n dl_563 rfl ?_
  refine gh_aload_n dl_564 rfl ?_
  refine gh_iload_n dl_565 rfl ?_
  refine gh_iconst dl_566 (v := nI 1) (by decide) ?_
  refine gh_iadd dl_567 ?_
  refine gh_sld hX dl_568 (lw_vp hi hL (by decide)) ?_
  refine gh_callVi (mi' := mi_X7_again) (as := [vI (xs (nI i + nI 1).toNatClampNeg)]) (S := [vI r1]) (k := 32) (t := 0) dl_569 (Or.inl bl_1061) ok_X7_again rfl rfl (by decide) (Nat.le_of_ble_eq_true rfl) (by decide) (by decide) rfl rfl (wk_X7_again _ _ _ hw) (fun r2 M2 hw => ?_)
  obtain ⟨e, hO2⟩ := hw
  exact gh_icmp_eq (tgt := 1491) dl_572 rfl (fun _ => hN M2 hO2) (fun h => absurd e h)
theorem lc_trick {wd : gh_Wd} {x : gh_X} {M : gh_M} {b L : Nat} {xs : Nat → Int32} {i : Nat} (hX : gh_Sc wd b L xs x) (hi : i + 7 ≤ L) (hL : L ≤ 3584) (hO : OKn M) (hN : ∀ M', OKn M' → gh_J mi_law 1000 wd x M' 1491 (lwL i) []) : gh_J mi_law 1000 wd x M 577 (lwL i) [] := by
  obtain ⟨S, hC, hR⟩ := hO
  refine gh_aload_n dl_577 rfl ?_
  refine gh_aload_n dl_578 rfl ?_
  refine gh_iload_n dl_579 rfl ?_
  refine gh_iconst dl_580 (v := nI 1) (by decide) ?_
  refine gh_iadd dl_581 ?_
  refine gh_sld hX dl_582 (lw_vp hi hL (by decide)) ?_
  refine gh_aload_n dl_583 rfl ?_
  refine gh_iload_n dl_584 rfl ?_
  refine gh_iconst dl_585 (v := nI 2) (by decide) ?_
  refine gh_iadd dl_586 ?_
  refine gh_sld hX dl_587 (lw_vp hi hL (by decide)) ?_
  have hw := L_trick (a0 := (xs (nI i + nI 1).toNatClampNeg)) (a1 := (xs (nI i + nI 2).toNatClampNeg)) hC hR
  refine gh_callVi (mi' := mi_X6_trick) (as := [vI (xs (nI i + nI 1).toNatClampNeg), vI (xs (nI i + nI 2).toNatClampNeg)]) (S := []) (k := 0) (t := 0) dl_588 (Or.inl bl_496) ok_X6_trick rfl rfl (by decide) (Nat.le_of_ble_eq_true rfl) (by decide) (by decide) rfl rfl (wk_X6_trick _ _ _ _ hw) (fun r1 M1 hw => ?_)
  refine gh_aload_n dl_591 rfl ?_
  refine gh_aload_n dl_592 rfl ?_
  refine gh_iload_n dl_593 rfl ?_
  refine gh_iconst dl_594 (v := nI 1) (by decide) ?_
  refine gh_iadd dl_595 ?_
  refine gh_sld hX dl_596 (lw_vp hi hL (by decide)) ?_
  refine gh_aload_n dl_597 rfl ?_
  refine gh_iload_n dl_598 rfl ?_
  refine gh_iconst dl_599 (v := nI 2) (by decide) ?_
  refine gh_iadd dl_600 ?_
  refine gh_sld hX dl_601 (lw_vp hi hL (by decide)) ?_
  refine gh_callVi (mi' := mi_X7_trick) (as := [vI (xs (nI i + nI 1).toNatClampNeg), vI (xs (nI i + nI 2).toNatClampNeg)]) (S := [vI r1]) (k := 32) (t := 0) dl_602 (Or.inl bl_1069) ok_X7_trick rfl rfl (by decide) (Nat.le_of_ble_eq_true rfl) (by decide) (by decide) rfl rfl (wk_X7_trick _ _ _ _ hw) (fun r2 M2 hw => ?_)
  obtain ⟨e, hO2⟩ := hw
  exact gh_icmp_eq (tgt := 1491) dl_605 rfl (fun _ => hN M2 hO2) (fun h => absurd e h)
theorem lc_car {wd : gh_Wd} {x : gh_X} {M : gh_M} {b L : Nat} {xs : Nat → Int32} {i : Nat} (hX : gh_Sc wd b L xs x) (hi : i + 7 ≤ L) (hL : L ≤ 3584) (hO : OKn M) (hN : ∀ M', OKn M' → gh_J mi_law 1000 wd x M' 1491 (lwL i) []) : gh_J mi_law 1000 wd x M 610 (lwL i) [] := by
  obtain ⟨S, hC, hR⟩ := hO
  refine gh_aload_n dl_610 rfl ?_
  refine gh_aload_n dl_611 rfl ?_
  refine gh_iload_n dl_612 rfl ?_
  refine gh_iconst dl_613 (v := nI 1) (by decide) ?_
  refine gh_iadd dl_614 ?_
  refine gh_sld hX dl_615 (lw_vp hi hL (by decide)) ?_
  refine gh_aload_n dl_616 rfl ?_
  refine gh_iload_n dl_617 rfl ?_
  refine gh_iconst dl_618 (v := nI 2) (by decide) ?_
  refine gh_iadd dl_619 ?_
  refine gh_sld hX dl_620 (lw_vp hi hL (by decide)) ?_
  have hw := L_car (a0 := (xs (nI i + nI 1).toNatClampNeg)) (a1 := (xs (nI i + nI 2).toNatClampNeg)) hC hR
  refine gh_callVi (mi' := mi_X6_car) (as := [vI (xs (nI i + nI 1).toNatClampNeg), vI (xs (nI i + nI 2).toNatClampNeg)]) (S := []) (k := 0) (t := 0) dl_621 (Or.inl bl_500) ok_X6_car rfl rfl (by decide) (Nat.le_of_ble_eq_true rfl) (by decide) (by decide) rfl rfl (wk_X6_car _ _ _ _ hw) (fun r1 M1 hw => ?_)
  refine gh_aload_n dl_624 rfl ?_
  refine gh_aload_n dl_625 rfl ?_
  refine gh_iload_n dl_626 rfl ?_
  refine gh_iconst dl_627 (v := nI 1) (by decide) ?_
  refine gh_iadd dl_628 ?_
  refine gh_sld hX dl_629 (lw_vp hi hL (by decide)) ?_
  refine gh_aload_n dl_630 rfl ?_
  refine gh_iload_n dl_631 rfl ?_
  refine gh_iconst dl_632 (v := nI 2) (by decide) ?_
  refine gh_iadd dl_633 ?_
  refine gh_sld hX dl_634 (lw_vp hi hL (by decide)) ?_
  refine gh_callVi (mi' := mi_X7_car) (as := [vI (xs (nI i + nI 1).toNatClampNeg), vI (xs (nI i + nI 2).toNatClampNeg)]) (S := [vI r1]) (k := 32) (t := 0) dl_635 (Or.inl bl_1073) ok_X7_car rfl rfl (by decide) (Nat.le_of_ble_eq_true rfl) (by decide) (by decide) rfl rfl (wk_X7_car _ _ _ _ hw) (fun r2 M2 hw => ?_)
  obtain ⟨e, hO2⟩ := hw
  exact gh_icmp_eq (tgt := 1491) dl_638 rfl (fun _ => hN M2 hO2) (fun h => absurd e h)
theorem lc_cell {wd : gh_Wd} {x : gh_X} {M : gh_M} {b L : Nat} {xs : Nat → Int32} {i : Nat} (hX : gh_Sc wd b L xs x) (hi : i + 7 ≤ L) (hL : L ≤ 3584) (hO : OKn M) (hN : ∀ M', OKn M' → gh_J mi_law 1000 wd x M' 1491 (lwL i) []) : gh_J mi_law 1000 wd x M 643 (lwL i) [] := by
  obtain ⟨S, hC, hR⟩ := hO
  refine gh_aload_n dl_643 rfl ?_
  refine gh_aload_n dl_644 rfl ?_
  refine gh_iload_n dl_645 rfl ?_
  refine gh_iconst dl_646 (v := nI 1) (by decide) ?_
  refine gh_iadd dl_647 ?_
  refine gh_sld hX dl_648 (lw_vp hi hL (by decide)) ?_
  refine gh_aload_n dl_649 rfl ?_
  refine gh_iload_n dl_650 rfl ?_
  refine gh_iconst dl_651 (v := nI 2) (by decide) ?_
  refine gh_iadd dl_652 ?_
  refine gh_sld hX dl_653 (lw_vp hi hL (by decide)) ?_
  have hw := L_cell (a0 := (xs (nI i + nI 1).toNatClampNeg)) (a1 := (xs (nI i + nI 2).toNatClampNeg)) hC hR
  refine gh_callVi (mi' := mi_X6_cell) (as := [vI (xs (nI i + nI 1).toNatClampNeg), vI (xs (nI i + nI 2).toNatClampNeg)]) (S := []) (k := 0) (t := 0) dl_654 (Or.inl bl_504) ok_X6_cell rfl rfl (by decide) (Nat.le_of_ble_eq_true rfl) (by decide) (by decide) rfl rfl (wk_X6_cell _ _ _ _ hw) (fun r1 M1 hw => ?_)
  refine gh_aload_n dl_657 rfl ?_
  refine gh_aload_n dl_658 rfl ?_
  refine gh_iload_n dl_659 rfl ?_
  refine gh_iconst dl_660 (v := nI 1) (by decide) ?_
  refine gh_iadd dl_661 ?_
  refine gh_sld hX dl_662 (lw_vp hi hL (by decide)) ?_
  refine gh_aload_n dl_663 rfl ?_
  refine gh_iload_n dl_664 rfl ?_
  refine gh_iconst dl_665 (v := nI 2) (by decide) ?_
  refine gh_iadd dl_666 ?_
  refine gh_sld hX dl_667 (lw_vp hi hL (by decide)) ?_
  refine gh_callVi (mi' := mi_X7_cell) (as := [vI (xs (nI i + nI 1).toNatClampNeg), vI (xs (nI i + nI 2).toNatClampNeg)]) (S := [vI r1]) (k := 32) (t := 0) dl_668 (Or.inl bl_1077) ok_X7_cell rfl rfl (by decide) (Nat.le_of_ble_eq_true rfl) (by decide) (by decide) rfl rfl (wk_X7_cell _ _ _ _ hw) (fun r2 M2 hw => ?_)
  obtain ⟨e, hO2⟩ := hw
  exact gh_icmp_eq (tgt := 1491) dl_671 rfl (fun _ => hN M2 hO2) (fun h => absurd e h)
theorem lc_stand {wd : gh_Wd} {x : gh_X} {M : gh_M} {b L : Nat} {xs : Nat → Int32} {i : Nat} (hX : gh_Sc wd b L xs x) (hi : i + 7 ≤ L) (hL : L ≤ 3584) (hO : OKn M) (hN : ∀ M', OKn M' → gh_J mi_law 1000 wd x M' 1491 (lwL i) []) : gh_J mi_law 1000 wd x M 676 (lwL i) [] := by
  obtain ⟨S, hC, hR⟩ := hO
  refine gh_aload_n dl_676 rfl ?_
  refine gh_aload_n dl_677 rfl ?_
  refine gh_iload_n dl_678 rfl ?_
  refine gh_iconst dl_679 (v := nI 1) (by decide) ?_
  refine gh_iadd dl_680 ?_
  refine gh_sld hX dl_681 (lw_vp hi hL (by decide)) ?_
  have hw := L_stand (a0 := (xs (nI i + nI 1).toNatClampNeg)) hC hR
  refine gh_callVi (mi' := mi_X6_stand) (as := [vI (xs (nI i + nI 1).toNatClampNeg)]) (S := []) (k := 0) (t := 0) dl_682 (Or.inl bl_514) ok_X6_stand rfl rfl (by decide) (Nat.le_of_ble_eq_true rfl) (by decide) (by decide) rfl rfl (wk_X6_stand _ _ _ hw) (fun r1 M1 hw => ?_)
  refine gh_aload_n dl_685 rfl ?_
  refine gh_aload_n dl_686 rfl ?_
  refine gh_iload_n dl_687 rfl ?_
  refine gh_iconst dl_688 (v := nI 1) (by decide) ?_
  refine gh_iadd dl_689 ?_
  refine gh_sld hX dl_690 (lw_vp hi hL (by decide)) ?_
  refine gh_callVi (mi' := mi_X7_stand) (as := [vI (xs (nI i + nI 1).toNatClampNeg)]) (S := [vI r1]) (k := 32) (t := 0) dl_691 (Or.inl bl_1085) ok_X7_stand rfl rfl (by decide) (Nat.le_of_ble_eq_true rfl) (by decide) (by decide) rfl rfl (wk_X7_stand _ _ _ hw) (fun r2 M2 hw => ?_)
  obtain ⟨e, hO2⟩ := hw
  exact gh_icmp_eq (tgt := 1491) dl_694 rfl (fun _ => hN M2 hO2) (fun h => absurd e h)
theorem lc_ahead {wd : gh_Wd} {x : gh_X} {M : gh_M} {b L : Nat} {xs : Nat → Int32} {i : Nat} (hX : gh_Sc wd b L xs x) (hi : i + 7 ≤ L) (hL : L ≤ 3584) (hO : OKn M) (hN : ∀ M', OKn M' → gh_J mi_law 1000 wd x M' 1491 (lwL i) []) : gh_J mi_law 1000 wd x M 699 (lwL i) [] := by
  obtain ⟨S, hC, hR⟩ := hO
  refine gh_aload_n dl_699 rfl ?_
  refine gh_aload_n dl_700 rfl ?_
  refine gh_iload_n dl_701 rfl ?_
  refine gh_iconst dl_702 (v := nI 1) (by decide) ?_
  refine gh_iadd dl_703 ?_
  refine gh_sld hX dl_704 (lw_vp hi hL (by decide)) ?_
  refine gh_aload_n dl_705 rfl ?_
  refine gh_iload_n dl_706 rfl ?_
  refine gh_iconst dl_707 (v := nI 2) (by decide) ?_
  refine gh_iadd dl_708 ?_
  refine gh_sld hX dl_709 (lw_vp hi hL (by decide)) ?_
  refine gh_aload_n dl_710 rfl ?_
  refine gh_iload_n dl_711 rfl ?_
  refine gh_iconst dl_712 (v := nI 3) (by decide) ?_
  refine gh_iadd dl_713 ?_
  refine gh_sld hX dl_714 (lw_vp hi hL (by decide)) ?_
  have hw := L_ahead (a0 := (xs (nI i + nI 1).toNatClampNeg)) (a1 := (xs (nI i + nI 2).toNatClampNeg)) (a2 := (xs (nI i + nI 3).toNatClampNeg)) hC hR
  refine gh_callVi (mi' := mi_X6_ahead) (as := [vI (xs (nI i + nI 1).toNatClampNeg), vI (xs (nI i + nI 2).toNatClampNeg), vI (xs (nI i + nI 3).toNatClampNeg)]) (S := []) (k := 0) (t := 0) dl_715 (Or.inl bl_526) ok_X6_ahead rfl rfl (by decide) (Nat.le_of_ble_eq_true rfl) (by decide) (by decide) rfl rfl (wk_X6_ahead _ _ _ _ _ hw) (fun r1 M1 hw => ?_)
  refine gh_aload_n dl_718 rfl ?_
  refine gh_aload_n dl_719 rfl ?_
  refine gh_iload_n dl_720 rfl ?_
  refine gh_iconst dl_721 (v := nI 1) (by decide) ?_
  refine gh_iadd dl_722 ?_
  refine gh_sld hX dl_723 (lw_vp hi hL (by decide)) ?_
  refine gh_aload_n dl_724 rfl ?_
  refine gh_iload_n dl_725 rfl ?_
  refine gh_iconst dl_726 (v := nI 2) (by decide) ?_
  refine gh_iadd dl_727 ?_
  refine gh_sld hX dl_728 (lw_vp hi hL (by decide)) ?_
  refine gh_aload_n dl_729 rfl ?_
  refine gh_iload_n dl_730 rfl ?_
  refine gh_iconst dl_731 (v := nI 3) (by decide) ?_
  refine gh_iadd dl_732 ?_
  refine gh_sld hX dl_733 (lw_vp hi hL (by decide)) ?_
  refine gh_callVi (mi' := mi_X7_ahead) (as := [vI (xs (nI i + nI 1).toNatClampNeg), vI (xs (nI i + nI 2).toNatClampNeg), vI (xs (nI i + nI 3).toNatClampNeg)]) (S := [vI r1]) (k := 32) (t := 0) dl_734 (Or.inl bl_1093) ok_X7_ahead rfl rfl (by decide) (Nat.le_of_ble_eq_true rfl) (by decide) (by decide) rfl rfl (wk_X7_ahead _ _ _ _ _ hw) (fun r2 M2 hw => ?_)
  obtain ⟨e, hO2⟩ := hw
  exact gh_icmp_eq (tgt := 1491) dl_737 rfl (fun _ => hN M2 hO2) (fun h => absurd e h)
theorem lc_show {wd : gh_Wd} {x : gh_X} {M : gh_M} {b L : Nat} {xs : Nat → Int32} {i : Nat} (hX : gh_Sc wd b L xs x) (hi : i + 7 ≤ L) (hL : L ≤ 3584) (hO : OKn M) (hN : ∀ M', OKn M' → gh_J mi_law 1000 wd x M' 1491 (lwL i) []) : gh_J mi_law 1000 wd x M 742 (lwL i) [] := by
  obtain ⟨S, hC, hR⟩ := hO
  refine gh_aload_n dl_742 rfl ?_
  refine gh_aload_n dl_743 rfl ?_
  refine gh_iload_n dl_744 rfl ?_
  refine gh_iconst dl_745 (v := nI 1) (by decide) ?_
  refine gh_iadd dl_746 ?_
  refine gh_sld hX dl_747 (lw_vp hi hL (by decide)) ?_
  refine gh_aload_n dl_748 rfl ?_
  refine gh_iload_n dl_749 rfl ?_
  refine gh_iconst dl_750 (v := nI 2) (by decide) ?_
  refine gh_iadd dl_751 ?_
  refine gh_sld hX dl_752 (lw_vp hi hL (by decide)) ?_
  have hw := L_show (a0 := (xs (nI i + nI 1).toNatClampNeg)) (a1 := (xs (nI i + nI 2).toNatClampNeg)) hC hR
  refine gh_callVi (mi' := mi_X6_show) (as := [vI (xs (nI i + nI 1).toNatClampNeg), vI (xs (nI i + nI 2).toNatClampNeg)]) (S := []) (k := 0) (t := 0) dl_753 (Or.inl bl_544) ok_X6_show rfl rfl (by decide) (Nat.le_of_ble_eq_true rfl) (by decide) (by decide) rfl rfl (wk_X6_show _ _ _ _ hw) (fun r1 M1 hw => ?_)
  refine gh_aload_n dl_756 rfl ?_
  refine gh_aload_n dl_757 rfl ?_
  refine gh_iload_n dl_758 rfl ?_
  refine gh_iconst dl_759 (v := nI 1) (by decide) ?_
  refine gh_iadd dl_760 ?_
  refine gh_sld hX dl_761 (lw_vp hi hL (by decide)) ?_
  refine gh_aload_n dl_762 rfl ?_
  refine gh_iload_n dl_763 rfl ?_
  refine gh_iconst dl_764 (v := nI 2) (by decide) ?_
  refine gh_iadd dl_765 ?_
  refine gh_sld hX dl_766 (lw_vp hi hL (by decide)) ?_
  refine gh_callVi (mi' := mi_X7_show) (as := [vI (xs (nI i + nI 1).toNatClampNeg), vI (xs (nI i + nI 2).toNatClampNeg)]) (S := [vI r1]) (k := 32) (t := 0) dl_767 (Or.inl bl_1109) ok_X7_show rfl rfl (by decide) (Nat.le_of_ble_eq_true rfl) (by decide) (by decide) rfl rfl (wk_X7_show _ _ _ _ hw) (fun r2 M2 hw => ?_)
  obtain ⟨e, hO2⟩ := hw
  exact gh_icmp_eq (tgt := 1491) dl_770 rfl (fun _ => hN M2 hO2) (fun h => absurd e h)
theorem lc_when {wd : gh_Wd} {x : gh_X} {M : gh_M} {b L : Nat} {xs : Nat → Int32} {i : Nat} (hX : gh_Sc wd b L xs x) (hi : i + 7 ≤ L) (hL : L ≤ 3584) (hO : OKn M) (hN : ∀ M', OKn M' → gh_J mi_law 1000 wd x M' 1491 (lwL i) []) : gh_J mi_law 1000 wd x M 775 (lwL i) [] := by
  obtain ⟨S, hC, hR⟩ := hO
  refine gh_aload_n dl_775 rfl ?_
  refine gh_aload_n dl_776 rfl ?_
  refine gh_iload_n dl_777 rfl ?_
  refine gh_iconst dl_778 (v := nI 1) (by decide) ?_
  refine gh_iadd dl_779 ?_
  refine gh_sld hX dl_780 (lw_vp hi hL (by decide)) ?_
  refine gh_aload_n dl_781 rfl ?_
  refine gh_iload_n dl_782 rfl ?_
  refine gh_iconst dl_783 (v := nI 2) (by decide) ?_
  refine gh_iadd dl_784 ?_
  refine gh_sld hX dl_785 (lw_vp hi hL (by decide)) ?_
  have hw := L_when (a0 := (xs (nI i + nI 1).toNatClampNeg)) (a1 := (xs (nI i + nI 2).toNatClampNeg)) hC hR
  refine gh_callVi (mi' := mi_X6_when) (as := [vI (xs (nI i + nI 1).toNatClampNeg), vI (xs (nI i + nI 2).toNatClampNeg)]) (S := []) (k := 0) (t := 0) dl_786 (Or.inl bl_559) ok_X6_when rfl rfl (by decide) (Nat.le_of_ble_eq_true rfl) (by decide) (by decide) rfl rfl (wk_X6_when _ _ _ _ hw) (fun r1 M1 hw => ?_)
  refine gh_aload_n dl_789 rfl ?_
  refine gh_aload_n dl_790 rfl ?_
  refine gh_iload_n dl_791 rfl ?_
  refine gh_iconst dl_792 (v := nI 1) (by decide) ?_
  refine gh_iadd dl_793 ?_
  refine gh_sld hX dl_794 (lw_vp hi hL (by decide)) ?_
  refine gh_aload_n dl_795 rfl ?_
  refine gh_iload_n dl_796 rfl ?_
  refine gh_iconst dl_797 (v := nI 2) (by decide) ?_
  refine gh_iadd dl_798 ?_
  refine gh_sld hX dl_799 (lw_vp hi hL (by decide)) ?_
  refine gh_callVi (mi' := mi_X7_when) (as := [vI (xs (nI i + nI 1).toNatClampNeg), vI (xs (nI i + nI 2).toNatClampNeg)]) (S := [vI r1]) (k := 32) (t := 0) dl_800 (Or.inl bl_1121) ok_X7_when rfl rfl (by decide) (Nat.le_of_ble_eq_true rfl) (by decide) (by decide) rfl rfl (wk_X7_when _ _ _ _ hw) (fun r2 M2 hw => ?_)
  obtain ⟨e, hO2⟩ := hw
  exact gh_icmp_eq (tgt := 1491) dl_803 rfl (fun _ => hN M2 hO2) (fun h => absurd e h)
theorem lc_over {wd : gh_Wd} {x : gh_X} {M : gh_M} {b L : Nat} {xs : Nat → Int32} {i : Nat} (hX : gh_Sc wd b L xs x) (hi : i + 7 ≤ L) (hL : L ≤ 3584) (hO : OKn M) (hN : ∀ M', OKn M' → gh_J mi_law 1000 wd x M' 1491 (lwL i) []) : gh_J mi_law 1000 wd x M 808 (lwL i) [] := by
  obtain ⟨S, hC, hR⟩ := hO
  refine gh_aload_n dl_808 rfl ?_
  have hw := L_over  hC hR
  refine gh_callVi (mi' := mi_X6_over) (as := []) (S := []) (k := 0) (t := 0) dl_809 (Or.inl bl_573) ok_X6_over rfl rfl (by decide) (Nat.le_of_ble_eq_true rfl) (by decide) (by decide) rfl rfl (wk_X6_over _ _ hw) (fun r1 M1 hw => ?_)
  refine gh_aload_n dl_812 rfl ?_
  refine gh_callVi (mi' := mi_X7_over) (as := []) (S := [vI r1]) (k := 32) (t := 0) dl_813 (Or.inl bl_1125) ok_X7_over rfl rfl (by decide) (Nat.le_of_ble_eq_true rfl) (by decide) (by decide) rfl rfl (wk_X7_over _ _ hw) (fun r2 M2 hw => ?_)
  obtain ⟨e, hO2⟩ := hw
  exact gh_icmp_eq (tgt := 1491) dl_816 rfl (fun _ => hN M2 hO2) (fun h => absurd e h)
theorem lc_order {wd : gh_Wd} {x : gh_X} {M : gh_M} {b L : Nat} {xs : Nat → Int32} {i : Nat} (hX : gh_Sc wd b L xs x) (hi : i + 7 ≤ L) (hL : L ≤ 3584) (hO : OKn M) (hN : ∀ M', OKn M' → gh_J mi_law 1000 wd x M' 1491 (lwL i) []) : gh_J mi_law 1000 wd x M 821 (lwL i) [] := by
  obtain ⟨S, hC, hR⟩ := hO
  refine gh_aload_n dl_821 rfl ?_
  refine gh_aload_n dl_822 rfl ?_
  refine gh_iload_n dl_823 rfl ?_
  refine gh_iconst dl_824 (v := nI 1) (by decide) ?_
  refine gh_iadd dl_825 ?_
  refine gh_sld hX dl_826 (lw_vp hi hL (by decide)) ?_
  refine gh_aload_n dl_827 rfl ?_
  refine gh_iload_n dl_828 rfl ?_
  refine gh_iconst dl_829 (v := nI 2) (by decide) ?_
  refine gh_iadd dl_830 ?_
  refine gh_sld hX dl_831 (lw_vp hi hL (by decide)) ?_
  have hw := L_order (a0 := (xs (nI i + nI 1).toNatClampNeg)) (a1 := (xs (nI i + nI 2).toNatClampNeg)) hC hR
  refine gh_callVi (mi' := mi_X6_order) (as := [vI (xs (nI i + nI 1).toNatClampNeg), vI (xs (nI i + nI 2).toNatClampNeg)]) (S := []) (k := 0) (t := 0) dl_832 (Or.inl bl_582) ok_X6_order rfl rfl (by decide) (Nat.le_of_ble_eq_true rfl) (by decide) (by decide) rfl rfl (wk_X6_order _ _ _ _ hw) (fun r1 M1 hw => ?_)
  refine gh_aload_n dl_835 rfl ?_
  refine gh_aload_n dl_836 rfl ?_
  refine gh_iload_n dl_837 rfl ?_
  refine gh_iconst dl_838 (v := nI 1) (by decide) ?_
  refine gh_iadd dl_839 ?_
  refine gh_sld hX dl_840 (lw_vp hi hL (by decide)) ?_
  refine gh_aload_n dl_841 rfl ?_
  refine gh_iload_n dl_842 rfl ?_
  refine gh_iconst dl_843 (v := nI 2) (by decide) ?_
  refine gh_iadd dl_844 ?_
  refine gh_sld hX dl_845 (lw_vp hi hL (by decide)) ?_
  refine gh_callVi (mi' := mi_X7_order) (as := [vI (xs (nI i + nI 1).toNatClampNeg), vI (xs (nI i + nI 2).toNatClampNeg)]) (S := [vI r1]) (k := 32) (t := 0) dl_846 (Or.inl bl_1133) ok_X7_order rfl rfl (by decide) (Nat.le_of_ble_eq_true rfl) (by decide) (by decide) rfl rfl (wk_X7_order _ _ _ _ hw) (fun r2 M2 hw => ?_)
  obtain ⟨e, hO2⟩ := hw
  exact gh_icmp_eq (tgt := 1491) dl_849 rfl (fun _ => hN M2 hO2) (fun h => absurd e h)
theorem lc_spot {wd : gh_Wd} {x : gh_X} {M : gh_M} {b L : Nat} {xs : Nat → Int32} {i : Nat} (hX : gh_Sc wd b L xs x) (hi : i + 7 ≤ L) (hL : L ≤ 3584) (hO : OKn M) (hN : ∀ M', OKn M' → gh_J mi_law 1000 wd x M' 1491 (lwL i) []) : gh_J mi_law 1000 wd x M 854 (lwL i) [] := by
  obtain ⟨S, hC, hR⟩ := hO
  refine gh_aload_n dl_854 rfl ?_
  refine gh_aload_n dl_855 rfl ?_
  refine gh_iload_n dl_856 rfl ?_
  refine gh_iconst dl_857 (v := nI 1) (by decide) ?_
  refine gh_iadd dl_858 ?_
  refine gh_sld hX dl_859 (lw_vp hi hL (by decide)) ?_
  refine gh_aload_n dl_860 rfl ?_
  refine gh_iload_n dl_861 rfl ?_
  refine gh_iconst dl_862 (v := nI 2) (by decide) ?_
  refine gh_iadd dl_863 ?_
  refine gh_sld hX dl_864 (lw_vp hi hL (by decide)) ?_
  refine gh_aload_n dl_865 rfl ?_
  refine gh_iload_n dl_866 rfl ?_
  refine gh_iconst dl_867 (v := nI 3) (by decide) ?_
  refine gh_iadd dl_868 ?_
  refine gh_sld hX dl_869 (lw_vp hi hL (by decide)) ?_
  have hw := L_spot (a0 := (xs (nI i + nI 1).toNatClampNeg)) (a1 := (xs (nI i + nI 2).toNatClampNeg)) (a2 := (xs (nI i + nI 3).toNatClampNeg)) hC hR
  refine gh_callVi (mi' := mi_X6_spot) (as := [vI (xs (nI i + nI 1).toNatClampNeg), vI (xs (nI i + nI 2).toNatClampNeg), vI (xs (nI i + nI 3).toNatClampNeg)]) (S := []) (k := 0) (t := 0) dl_870 (Or.inl bl_615) ok_X6_spot rfl rfl (by decide) (Nat.le_of_ble_eq_true rfl) (by decide) (by decide) rfl rfl (wk_X6_spot _ _ _ _ _ hw) (fun r1 M1 hw => ?_)
  refine gh_aload_n dl_873 rfl ?_
  refine gh_aload_n dl_874 rfl ?_
  refine gh_iload_n dl_875 rfl ?_
  refine gh_iconst dl_876 (v := nI 1) (by decide) ?_
  refine gh_iadd dl_877 ?_
  refine gh_sld hX dl_878 (lw_vp hi hL (by decide)) ?_
  refine gh_aload_n dl_879 rfl ?_
  refine gh_iload_n dl_880 rfl ?_
  refine gh_iconst dl_881 (v := nI 2) (by decide) ?_
  refine gh_iadd dl_882 ?_
  refine gh_sld hX dl_883 (lw_vp hi hL (by decide)) ?_
  refine gh_aload_n dl_884 rfl ?_
  refine gh_iload_n dl_885 rfl ?_
  refine gh_iconst dl_886 (v := nI 3) (by decide) ?_
  refine gh_iadd dl_887 ?_
  refine gh_sld hX dl_888 (lw_vp hi hL (by decide)) ?_
  refine gh_callVi (mi' := mi_X7_spot) (as := [vI (xs (nI i + nI 1).toNatClampNeg), vI (xs (nI i + nI 2).toNatClampNeg), vI (xs (nI i + nI 3).toNatClampNeg)]) (S := [vI r1]) (k := 32) (t := 0) dl_889 (Or.inl bl_1148) ok_X7_spot rfl rfl (by decide) (Nat.le_of_ble_eq_true rfl) (by decide) (by decide) rfl rfl (wk_X7_spot _ _ _ _ _ hw) (fun r2 M2 hw => ?_)
  obtain ⟨e, hO2⟩ := hw
  exact gh_icmp_eq (tgt := 1491) dl_892 rfl (fun _ => hN M2 hO2) (fun h => absurd e h)
theorem lc_calm {wd : gh_Wd} {x : gh_X} {M : gh_M} {b L : Nat} {xs : Nat → Int32} {i : Nat} (hX : gh_Sc wd b L xs x) (hi : i + 7 ≤ L) (hL : L ≤ 3584) (hO : OKn M) (hN : ∀ M', OKn M' → gh_J mi_law 1000 wd x M' 1491 (lwL i) []) : gh_J mi_law 1000 wd x M 897 (lwL i) [] := by
  obtain ⟨S, hC, hR⟩ := hO
  refine gh_aload_n dl_897 rfl ?_
  refine gh_aload_n dl_898 rfl ?_
  refine gh_iload_n dl_899 rfl ?_
  refine gh_iconst dl_900 (v := nI 1) (by decide) ?_
  refine gh_iadd dl_901 ?_
  refine gh_sld hX dl_902 (lw_vp hi hL (by decide)) ?_
  refine gh_aload_n dl_903 rfl ?_
  refine gh_iload_n dl_904 rfl ?_
  refine gh_iconst dl_905 (v := nI 2) (by decide) ?_
  refine gh_iadd dl_906 ?_
  refine gh_sld hX dl_907 (lw_vp hi hL (by decide)) ?_
  have hw := L_calm (a0 := (xs (nI i + nI 1).toNatClampNeg)) (a1 := (xs (nI i + nI 2).toNatClampNeg)) hC hR
  refine gh_callVi (mi' := mi_X6_calm) (as := [vI (xs (nI i + nI 1).toNatClampNeg), vI (xs (nI i + nI 2).toNatClampNeg)]) (S := []) (k := 0) (t := 0) dl_908 (Or.inl bl_623) ok_X6_calm rfl rfl (by decide) (Nat.le_of_ble_eq_true rfl) (by decide) (by decide) rfl rfl (wk_X6_calm _ _ _ _ hw) (fun r1 M1 hw => ?_)
  refine gh_aload_n dl_911 rfl ?_
  refine gh_aload_n dl_912 rfl ?_
  refine gh_iload_n dl_913 rfl ?_
  refine gh_iconst dl_914 (v := nI 1) (by decide) ?_
  refine gh_iadd dl_915 ?_
  refine gh_sld hX dl_916 (lw_vp hi hL (by decide)) ?_
  refine gh_aload_n dl_917 rfl ?_
  refine gh_iload_n dl_918 rfl ?_
  refine gh_iconst dl_919 (v := nI 2) (by decide) ?_
  refine gh_iadd dl_920 ?_
  refine gh_sld hX dl_921 (lw_vp hi hL (by decide)) ?_
  refine gh_callVi (mi' := mi_X7_calm) (as := [vI (xs (nI i + nI 1).toNatClampNeg), vI (xs (nI i + nI 2).toNatClampNeg)]) (S := [vI r1]) (k := 32) (t := 0) dl_922 (Or.inl bl_1152) ok_X7_calm rfl rfl (by decide) (Nat.le_of_ble_eq_true rfl) (by decide) (by decide) rfl rfl (wk_X7_calm _ _ _ _ hw) (fun r2 M2 hw => ?_)
  obtain ⟨e, hO2⟩ := hw
  exact gh_icmp_eq (tgt := 1491) dl_925 rfl (fun _ => hN M2 hO2) (fun h => absurd e h)
theorem lc_bears {wd : gh_Wd} {x : gh_X} {M : gh_M} {b L : Nat} {xs : Nat → Int32} {i : Nat} (hX : gh_Sc wd b L xs x) (hi : i + 7 ≤ L) (hL : L ≤ 3584) (hO : OKn M) (hN : ∀ M', OKn M' → gh_J mi_law 1000 wd x M' 1491 (lwL i) []) : gh_J mi_law 1000 wd x M 930 (lwL i) [] := by
  obtain ⟨S, hC, hR⟩ := hO
  refine gh_aload_n dl_930 rfl ?_
  refine gh_aload_n dl_931 rfl ?_
  refine gh_iload_n dl_932 rfl ?_
  refine gh_iconst dl_933 (v := nI 1) (by decide) ?_
  refine gh_iadd dl_934 ?_
  refine gh_sld hX dl_935 (lw_vp hi hL (by decide)) ?_
  refine gh_aload_n dl_936 rfl ?_
  refine gh_iload_n dl_937 rfl ?_
  refine gh_iconst dl_938 (v := nI 2) (by decide) ?_
  refine gh_iadd dl_939 ?_
  refine gh_sld hX dl_940 (lw_vp hi hL (by decide)) ?_
  have hw := L_bears (a0 := (xs (nI i + nI 1).toNatClampNeg)) (a1 := (xs (nI i + nI 2).toNatClampNeg)) hC hR
  refine gh_callVi (mi' := mi_X6_bears) (as := [vI (xs (nI i + nI 1).toNatClampNeg), vI (xs (nI i + nI 2).toNatClampNeg)]) (S := []) (k := 0) (t := 0) dl_941 (Or.inl bl_640) ok_X6_bears rfl rfl (by decide) (Nat.le_of_ble_eq_true rfl) (by decide) (by decide) rfl rfl (wk_X6_bears _ _ _ _ hw) (fun r1 M1 hw => ?_)
  refine gh_aload_n dl_944 rfl ?_
  refine gh_aload_n dl_945 rfl ?_
  refine gh_iload_n dl_946 rfl ?_
  refine gh_iconst dl_947 (v := nI 1) (by decide) ?_
  refine gh_iadd dl_948 ?_
  refine gh_sld hX dl_949 (lw_vp hi hL (by decide)) ?_
  refine gh_aload_n dl_950 rfl ?_
  refine gh_iload_n dl_951 rfl ?_
  refine gh_iconst dl_952 (v := nI 2) (by decide) ?_
  refine gh_iadd dl_953 ?_
  refine gh_sld hX dl_954 (lw_vp hi hL (by decide)) ?_
  refine gh_callVi (mi' := mi_X7_bears) (as := [vI (xs (nI i + nI 1).toNatClampNeg), vI (xs (nI i + nI 2).toNatClampNeg)]) (S := [vI r1]) (k := 32) (t := 0) dl_955 (Or.inl bl_1167) ok_X7_bears rfl rfl (by decide) (Nat.le_of_ble_eq_true rfl) (by decide) (by decide) rfl rfl (wk_X7_bears _ _ _ _ hw) (fun r2 M2 hw => ?_)
  obtain ⟨e, hO2⟩ := hw
  exact gh_icmp_eq (tgt := 1491) dl_958 rfl (fun _ => hN M2 hO2) (fun h => absurd e h)
theorem lc_sets {wd : gh_Wd} {x : gh_X} {M : gh_M} {b L : Nat} {xs : Nat → Int32} {i : Nat} (hX : gh_Sc wd b L xs x) (hi : i + 7 ≤ L) (hL : L ≤ 3584) (hO : OKn M) (hN : ∀ M', OKn M' → gh_J mi_law 1000 wd x M' 1491 (lwL i) []) : gh_J mi_law 1000 wd x M 963 (lwL i) [] := by
  obtain ⟨S, hC, hR⟩ := hO
  refine gh_aload_n dl_963 rfl ?_
  refine gh_aload_n dl_964 rfl ?_
  refine gh_iload_n dl_965 rfl ?_
  refine gh_iconst dl_966 (v := nI 1) (by decide) ?_
  refine gh_iadd dl_967 ?_
  refine gh_sld hX dl_968 (lw_vp hi hL (by decide)) ?_
  refine gh_aload_n dl_969 rfl ?_
  refine gh_iload_n dl_970 rfl ?_
  refine gh_iconst dl_971 (v := nI 2) (by decide) ?_
  refine gh_iadd dl_972 ?_
  refine gh_sld hX dl_973 (lw_vp hi hL (by decide)) ?_
  have hw := L_sets (a0 := (xs (nI i + nI 1).toNatClampNeg)) (a1 := (xs (nI i + nI 2).toNatClampNeg)) hC hR
  refine gh_callVi (mi' := mi_X6_sets) (as := [vI (xs (nI i + nI 1).toNatClampNeg), vI (xs (nI i + nI 2).toNatClampNeg)]) (S := []) (k := 0) (t := 0) dl_974 (Or.inl bl_648) ok_X6_sets rfl rfl (by decide) (Nat.le_of_ble_eq_true rfl) (by decide) (by decide) rfl rfl (wk_X6_sets _ _ _ _ hw) (fun r1 M1 hw => ?_)
  refine gh_aload_n dl_977 rfl ?_
  refine gh_aload_n dl_978 rfl ?_
  refine gh_iload_n dl_979 rfl ?_
  refine gh_iconst dl_980 (v := nI 1) (by decide) ?_
  refine gh_iadd dl_981 ?_
  refine gh_sld hX dl_982 (lw_vp hi hL (by decide)) ?_
  refine gh_aload_n dl_983 rfl ?_
  refine gh_iload_n dl_984 rfl ?_
  refine gh_iconst dl_985 (v := nI 2) (by decide) ?_
  refine gh_iadd dl_986 ?_
  refine gh_sld hX dl_987 (lw_vp hi hL (by decide)) ?_
  refine gh_callVi (mi' := mi_X7_sets) (as := [vI (xs (nI i + nI 1).toNatClampNeg), vI (xs (nI i + nI 2).toNatClampNeg)]) (S := [vI r1]) (k := 32) (t := 0) dl_988 (Or.inl bl_1171) ok_X7_sets rfl rfl (by decide) (Nat.le_of_ble_eq_true rfl) (by decide) (by decide) rfl rfl (wk_X7_sets _ _ _ _ hw) (fun r2 M2 hw => ?_)
  obtain ⟨e, hO2⟩ := hw
  exact gh_icmp_eq (tgt := 1491) dl_991 rfl (fun _ => hN M2 hO2) (fun h => absurd e h)
theorem lc_share {wd : gh_Wd} {x : gh_X} {M : gh_M} {b L : Nat} {xs : Nat → Int32} {i : Nat} (hX : gh_Sc wd b L xs x) (hi : i + 7 ≤ L) (hL : L ≤ 3584) (hO : OKn M) (hN : ∀ M', OKn M' → gh_J mi_law 1000 wd x M' 1491 (lwL i) []) : gh_J mi_law 1000 wd x M 996 (lwL i) [] := by
  obtain ⟨S, hC, hR⟩ := hO
  refine gh_aload_n dl_996 rfl ?_
  refine gh_aload_n dl_997 rfl ?_
  refine gh_iload_n dl_998 rfl ?_
  refine gh_iconst dl_999 (v := nI 1) (by decide) ?_
  refine gh_iadd dl_1000 ?_
  refine gh_sld hX dl_1001 (lw_vp hi hL (by decide)) ?_
  refine gh_aload_n dl_1002 rfl ?_
  refine gh_iload_n dl_1003 rfl ?_
  refine gh_iconst dl_1004 (v := nI 2) (by decide) ?_
  refine gh_iadd dl_1005 ?_
  refine gh_sld hX dl_1006 (lw_vp hi hL (by decide)) ?_
  have hw := L_share (a0 := (xs (nI i + nI 1).toNatClampNeg)) (a1 := (xs (nI i + nI 2).toNatClampNeg)) hC hR
  refine gh_callVi (mi' := mi_X6_share) (as := [vI (xs (nI i + nI 1).toNatClampNeg), vI (xs (nI i + nI 2).toNatClampNeg)]) (S := []) (k := 0) (t := 0) dl_1007 (Or.inl bl_661) ok_X6_share rfl rfl (by decide) (Nat.le_of_ble_eq_true rfl) (by decide) (by decide) rfl rfl (wk_X6_share _ _ _ _ hw) (fun r1 M1 hw => ?_)
  refine gh_aload_n dl_1010 rfl ?_
  refine gh_aload_n dl_1011 rfl ?_
  refine gh_iload_n dl_1012 rfl ?_
  refine gh_iconst dl_1013 (v := nI 1) (by decide) ?_
  refine gh_iadd dl_1014 ?_
  refine gh_sld hX dl_1015 (lw_vp hi hL (by decide)) ?_
  refine gh_aload_n dl_1016 rfl ?_
  refine gh_iload_n dl_1017 rfl ?_
  refine gh_iconst dl_1018 (v := nI 2) (by decide) ?_
  refine gh_iadd dl_1019 ?_
  refine gh_sld hX dl_1020 (lw_vp hi hL (by decide)) ?_
  refine gh_callVi (mi' := mi_X7_share) (as := [vI (xs (nI i + nI 1).toNatClampNeg), vI (xs (nI i + nI 2).toNatClampNeg)]) (S := [vI r1]) (k := 32) (t := 0) dl_1021 (Or.inl bl_1179) ok_X7_share rfl rfl (by decide) (Nat.le_of_ble_eq_true rfl) (by decide) (by decide) rfl rfl (wk_X7_share _ _ _ _ hw) (fun r2 M2 hw => ?_)
  obtain ⟨e, hO2⟩ := hw
  exact gh_icmp_eq (tgt := 1491) dl_1024 rfl (fun _ => hN M2 hO2) (fun h => absurd e h)
theorem lc_byTurns {wd : gh_Wd} {x : gh_X} {M : gh_M} {b L : Nat} {xs : Nat → Int32} {i : Nat} (hX : gh_Sc wd b L xs x) (hi : i + 7 ≤ L) (hL : L ≤ 3584) (hO : OKn M) (hN : ∀ M', OKn M' → gh_J mi_law 1000 wd x M' 1491 (lwL i) []) : gh_J mi_law 1000 wd x M 1029 (lwL i) [] := by
  obtain ⟨S, hC, hR⟩ := hO
  refine gh_aload_n dl_1029 rfl ?_
  refine gh_aload_n dl_1030 rfl ?_
  refine gh_iload_n dl_1031 rfl ?_
  refine gh_iconst dl_1032 (v := nI 1) (by decide) ?_
  refine gh_iadd dl_1033 ?_
  refine gh_sld hX dl_1034 (lw_vp hi hL (by decide)) ?_
  refine gh_aload_n dl_1035 rfl ?_
  refine gh_iload_n dl_1036 rfl ?_
  refine gh_iconst dl_1037 (v := nI 2) (by decide) ?_
  refine gh_iadd dl_1038 ?_
  refine gh_sld hX dl_1039 (lw_vp hi hL (by decide)) ?_
  have hw := L_byTurns (a0 := (xs (nI i + nI 1).toNatClampNeg)) (a1 := (xs (nI i + nI 2).toNatClampNeg)) hC hR
  refine gh_callVi (mi' := mi_X6_byTurns) (as := [vI (xs (nI i + nI 1).toNatClampNeg), vI (xs (nI i + nI 2).toNatClampNeg)]) (S := []) (k := 0) (t := 0) dl_1040 (Or.inl bl_670) ok_X6_byTurns rfl rfl (by decide) (Nat.le_of_ble_eq_true rfl) (by decide) (by decide) rfl rfl (wk_X6_byTurns _ _ _ _ hw) (fun r1 M1 hw => ?_)
  refine gh_aload_n dl_1043 rfl ?_
  refine gh_aload_n dl_1044 rfl ?_
  refine gh_iload_n dl_1045 rfl ?_
  refine gh_iconst dl_1046 (v := nI 1) (by decide) ?_
  refine gh_iadd dl_1047 ?_
  refine gh_sld hX dl_1048 (lw_vp hi hL (by decide)) ?_
  refine gh_aload_n dl_1049 rfl ?_
  refine gh_iload_n dl_1050 rfl ?_
  refine gh_iconst dl_1051 (v := nI 2) (by decide) ?_
  refine gh_iadd dl_1052 ?_
  refine gh_sld hX dl_1053 (lw_vp hi hL (by decide)) ?_
  refine gh_callVi (mi' := mi_X7_byTurns) (as := [vI (xs (nI i + nI 1).toNatClampNeg), vI (xs (nI i + nI 2).toNatClampNeg)]) (S := [vI r1]) (k := 32) (t := 0) dl_1054 (Or.inl bl_1187) ok_X7_byTurns rfl rfl (by decide) (Nat.le_of_ble_eq_true rfl) (by decide) (by decide) rfl rfl (wk_X7_byTurns _ _ _ _ hw) (fun r2 M2 hw => ?_)
  obtain ⟨e, hO2⟩ := hw
  exact gh_icmp_eq (tgt := 1491) dl_1057 rfl (fun _ => hN M2 hO2) (fun h => absurd e h)
theorem lc_who {wd : gh_Wd} {x : gh_X} {M : gh_M} {b L : Nat} {xs : Nat → Int32} {i : Nat} (hX : gh_Sc wd b L xs x) (hi : i + 7 ≤ L) (hL : L ≤ 3584) (hO : OKn M) (hN : ∀ M', OKn M' → gh_J mi_law 1000 wd x M' 1491 (lwL i) []) : gh_J mi_law 1000 wd x M 1062 (lwL i) [] := by
  obtain ⟨S, hC, hR⟩ := hO
  refine gh_aload_n dl_1062 rfl ?_
  refine gh_aload_n dl_1063 rfl ?_
  refine gh_iload_n dl_1064 rfl ?_
  refine gh_iconst dl_1065 (v := nI 1) (by decide) ?_
  refine gh_iadd dl_1066 ?_
  refine gh_sld hX dl_1067 (lw_vp hi hL (by decide)) ?_
  refine gh_aload_n dl_1068 rfl ?_
  refine gh_iload_n dl_1069 rfl ?_
  refine gh_iconst dl_1070 (v := nI 2) (by decide) ?_
  refine gh_iadd dl_1071 ?_
  refine gh_sld hX dl_1072 (lw_vp hi hL (by decide)) ?_
  refine gh_aload_n dl_1073 rfl ?_
  refine gh_iload_n dl_1074 rfl ?_
  refine gh_iconst dl_1075 (v := nI 3) (by decide) ?_
  refine gh_iadd dl_1076 ?_
  refine gh_sld hX dl_1077 (lw_vp hi hL (by decide)) ?_
  refine gh_aload_n dl_1078 rfl ?_
  refine gh_iload_n dl_1079 rfl ?_
  refine gh_iconst dl_1080 (v := nI 4) (by decide) ?_
  refine gh_iadd dl_1081 ?_
  refine gh_sld hX dl_1082 (lw_vp hi hL (by decide)) ?_
  refine gh_aload_n dl_1083 rfl ?_
  refine gh_iload_n dl_1084 rfl ?_
  refine gh_iconst dl_1085 (v := nI 5) (by decide) ?_
  refine gh_iadd dl_1086 ?_
  refine gh_sld hX dl_1087 (lw_vp hi hL (by decide)) ?_
  refine gh_aload_n dl_1088 rfl ?_
  refine gh_iload_n dl_1089 rfl ?_
  refine gh_bipush dl_1090 (v := nI 6) (by decide) ?_
  refine gh_iadd dl_1092 ?_
  refine gh_sld hX dl_1093 (lw_vp hi hL (by decide)) ?_
  have hw := L_who (a0 := (xs (nI i + nI 1).toNatClampNeg)) (a1 := (xs (nI i + nI 2).toNatClampNeg)) (a2 := (xs (nI i + nI 3).toNatClampNeg)) (a3 := (xs (nI i + nI 4).toNatClampNeg)) (a4 := (xs (nI i + nI 5).toNatClampNeg)) (a5 := (xs (nI i + nI 6).toNatClampNeg)) hC hR
  refine gh_callVi (mi' := mi_X6_who) (as := [vI (xs (nI i + nI 1).toNatClampNeg), vI (xs (nI i + nI 2).toNatClampNeg), vI (xs (nI i + nI 3).toNatClampNeg), vI (xs (nI i + nI 4).toNatClampNeg), vI (xs (nI i + nI 5).toNatClampNeg), vI (xs (nI i + nI 6).toNatClampNeg)]) (S := []) (k := 0) (t := 0) dl_1094 (Or.inl bl_691) ok_X6_who rfl rfl (by decide) (Nat.le_of_ble_eq_true rfl) (by decide) (by decide) rfl rfl (wk_X6_who _ _ _ _ _ _ _ _ hw) (fun r1 M1 hw => ?_)
  refine gh_aload_n dl_1097 rfl ?_
  refine gh_aload_n dl_1098 rfl ?_
  refine gh_iload_n dl_1099 rfl ?_
  refine gh_iconst dl_1100 (v := nI 1) (by decide) ?_
  refine gh_iadd dl_1101 ?_
  refine gh_sld hX dl_1102 (lw_vp hi hL (by decide)) ?_
  refine gh_aload_n dl_1103 rfl ?_
  refine gh_iload_n dl_1104 rfl ?_
  refine gh_iconst dl_1105 (v := nI 2) (by decide) ?_
  refine gh_iadd dl_1106 ?_
  refine gh_sld hX dl_1107 (lw_vp hi hL (by decide)) ?_
  refine gh_aload_n dl_1108 rfl ?_
  refine gh_iload_n dl_1109 rfl ?_
  refine gh_iconst dl_1110 (v := nI 3) (by decide) ?_
  refine gh_iadd dl_1111 ?_
  refine gh_sld hX dl_1112 (lw_vp hi hL (by decide)) ?_
  refine gh_aload_n dl_1113 rfl ?_
  refine gh_iload_n dl_1114 rfl ?_
  refine gh_iconst dl_1115 (v := nI 4) (by decide) ?_
  refine gh_iadd dl_1116 ?_
  refine gh_sld hX dl_1117 (lw_vp hi hL (by decide)) ?_
  refine gh_aload_n dl_1118 rfl ?_
  refine gh_iload_n dl_1119 rfl ?_
  refine gh_iconst dl_1120 (v := nI 5) (by decide) ?_
  refine gh_iadd dl_1121 ?_
  refine gh_sld hX dl_1122 (lw_vp hi hL (by decide)) ?_
  refine gh_aload_n dl_1123 rfl ?_
  refine gh_iload_n dl_1124 rfl ?_
  refine gh_bipush dl_1125 (v := nI 6) (by decide) ?_
  refine gh_iadd dl_1127 ?_
  refine gh_sld hX dl_1128 (lw_vp hi hL (by decide)) ?_
  refine gh_callVi (mi' := mi_X7_who) (as := [vI (xs (nI i + nI 1).toNatClampNeg), vI (xs (nI i + nI 2).toNatClampNeg), vI (xs (nI i + nI 3).toNatClampNeg), vI (xs (nI i + nI 4).toNatClampNeg), vI (xs (nI i + nI 5).toNatClampNeg), vI (xs (nI i + nI 6).toNatClampNeg)]) (S := [vI r1]) (k := 32) (t := 0) dl_1129 (Or.inl bl_1195) ok_X7_who rfl rfl (by decide) (Nat.le_of_ble_eq_true rfl) (by decide) (by decide) rfl rfl (wk_X7_who _ _ _ _ _ _ _ _ hw) (fun r2 M2 hw => ?_)
  obtain ⟨e, hO2⟩ := hw
  exact gh_icmp_eq (tgt := 1491) dl_1132 rfl (fun _ => hN M2 hO2) (fun h => absurd e h)
theorem lc_nerves {wd : gh_Wd} {x : gh_X} {M : gh_M} {b L : Nat} {xs : Nat → Int32} {i : Nat} (hX : gh_Sc wd b L xs x) (hi : i + 7 ≤ L) (hL : L ≤ 3584) (hO : OKn M) (hN : ∀ M', OKn M' → gh_J mi_law 1000 wd x M' 1491 (lwL i) []) : gh_J mi_law 1000 wd x M 1137 (lwL i) [] := by
  obtain ⟨S, hC, hR⟩ := hO
  refine gh_aload_n dl_1137 rfl ?_
  refine gh_aload_n dl_1138 rfl ?_
  refine gh_iload_n dl_1139 rfl ?_
  refine gh_iconst dl_1140 (v := nI 1) (by decide) ?_
  refine gh_iadd dl_1141 ?_
  refine gh_sld hX dl_1142 (lw_vp hi hL (by decide)) ?_
  refine gh_aload_n dl_1143 rfl ?_
  refine gh_iload_n dl_1144 rfl ?_
  refine gh_iconst dl_1145 (v := nI 2) (by decide) ?_
  refine gh_iadd dl_1146 ?_
  refine gh_sld hX dl_1147 (lw_vp hi hL (by decide)) ?_
  refine gh_aload_n dl_1148 rfl ?_
  refine gh_iload_n dl_1149 rfl ?_
  refine gh_iconst dl_1150 (v := nI 3) (by decide) ?_
  refine gh_iadd dl_1151 ?_
  refine gh_sld hX dl_1152 (lw_vp hi hL (by decide)) ?_
  refine gh_aload_n dl_1153 rfl ?_
  refine gh_iload_n dl_1154 rfl ?_
  refine gh_iconst dl_1155 (v := nI 4) (by decide) ?_
  refine gh_iadd dl_1156 ?_
  refine gh_sld hX dl_1157 (lw_vp hi hL (by decide)) ?_
  refine gh_aload_n dl_1158 rfl ?_
  refine gh_iload_n dl_1159 rfl ?_
  refine gh_iconst dl_1160 (v := nI 5) (by decide) ?_
  refine gh_iadd dl_1161 ?_
  refine gh_sld hX dl_1162 (lw_vp hi hL (by decide)) ?_
  have hw := L_nerves (a0 := (xs (nI i + nI 1).toNatClampNeg)) (a1 := (xs (nI i + nI 2).toNatClampNeg)) (a2 := (xs (nI i + nI 3).toNatClampNeg)) (a3 := (xs (nI i + nI 4).toNatClampNeg)) (a4 := (xs (nI i + nI 5).toNatClampNeg)) hC hR
  refine gh_callVi (mi' := mi_X6_nerves) (as := [vI (xs (nI i + nI 1).toNatClampNeg), vI (xs (nI i + nI 2).toNatClampNeg), vI (xs (nI i + nI 3).toNatClampNeg), vI (xs (nI i + nI 4).toNatClampNeg), vI (xs (nI i + nI 5).toNatClampNeg)]) (S := []) (k := 0) (t := 0) dl_1163 (Or.inl bl_712) ok_X6_nerves rfl rfl (by decide) (Nat.le_of_ble_eq_true rfl) (by decide) (by decide) rfl rfl (wk_X6_nerves _ _ _ _ _ _ _ hw) (fun r1 M1 hw => ?_)
  refine gh_aload_n dl_1166 rfl ?_
  refine gh_aload_n dl_1167 rfl ?_
  refine gh_iload_n dl_1168 rfl ?_
  refine gh_iconst dl_1169 (v := nI 1) (by decide) ?_
  refine gh_iadd dl_1170 ?_
  refine gh_sld hX dl_1171 (lw_vp hi hL (by decide)) ?_
  refine gh_aload_n dl_1172 rfl ?_
  refine gh_iload_n dl_1173 rfl ?_
  refine gh_iconst dl_1174 (v := nI 2) (by decide) ?_
  refine gh_iadd dl_1175 ?_
  refine gh_sld hX dl_1176 (lw_vp hi hL (by decide)) ?_
  refine gh_aload_n dl_1177 rfl ?_
  refine gh_iload_n dl_1178 rfl ?_
  refine gh_iconst dl_1179 (v := nI 3) (by decide) ?_
  refine gh_iadd dl_1180 ?_
  refine gh_sld hX dl_1181 (lw_vp hi hL (by decide)) ?_
  refine gh_aload_n dl_1182 rfl ?_
  refine gh_iload_n dl_1183 rfl ?_
  refine gh_iconst dl_1184 (v := nI 4) (by decide) ?_
  refine gh_iadd dl_1185 ?_
  refine gh_sld hX dl_1186 (lw_vp hi hL (by decide)) ?_
  refine gh_aload_n dl_1187 rfl ?_
  refine gh_iload_n dl_1188 rfl ?_
  refine gh_iconst dl_1189 (v := nI 5) (by decide) ?_
  refine gh_iadd dl_1190 ?_
  refine gh_sld hX dl_1191 (lw_vp hi hL (by decide)) ?_
  refine gh_callVi (mi' := mi_X7_nerves) (as := [vI (xs (nI i + nI 1).toNatClampNeg), vI (xs (nI i + nI 2).toNatClampNeg), vI (xs (nI i + nI 3).toNatClampNeg), vI (xs (nI i + nI 4).toNatClampNeg), vI (xs (nI i + nI 5).toNatClampNeg)]) (S := [vI r1]) (k := 32) (t := 0) dl_1192 (Or.inl bl_1207) ok_X7_nerves rfl rfl (by decide) (Nat.le_of_ble_eq_true rfl) (by decide) (by decide) rfl rfl (wk_X7_nerves _ _ _ _ _ _ _ hw) (fun r2 M2 hw => ?_)
  obtain ⟨e, hO2⟩ := hw
  exact gh_icmp_eq (tgt := 1491) dl_1195 rfl (fun _ => hN M2 hO2) (fun h => absurd e h)
theorem lc_fails {wd : gh_Wd} {x : gh_X} {M : gh_M} {b L : Nat} {xs : Nat → Int32} {i : Nat} (hX : gh_Sc wd b L xs x) (hi : i + 7 ≤ L) (hL : L ≤ 3584) (hO : OKn M) (hN : ∀ M', OKn M' → gh_J mi_law 1000 wd x M' 1491 (lwL i) []) : gh_J mi_law 1000 wd x M 1200 (lwL i) [] := by
  obtain ⟨S, hC, hR⟩ := hO
  refine gh_aload_n dl_1200 rfl ?_
  refine gh_aload_n dl_1201 rfl ?_
  refine gh_iload_n dl_1202 rfl ?_
  refine gh_iconst dl_1203 (v := nI 1) (by decide) ?_
  refine gh_iadd dl_1204 ?_
  refine gh_sld hX dl_1205 (lw_vp hi hL (by decide)) ?_
  refine gh_aload_n dl_1206 rfl ?_
  refine gh_iload_n dl_1207 rfl ?_
  refine gh_iconst dl_1208 (v := nI 2) (by decide) ?_
  refine gh_iadd dl_1209 ?_
  refine gh_sld hX dl_1210 (lw_vp hi hL (by decide)) ?_
  refine gh_aload_n dl_1211 rfl ?_
  refine gh_iload_n dl_1212 rfl ?_
  refine gh_iconst dl_1213 (v := nI 3) (by decide) ?_
  refine gh_iadd dl_1214 ?_
  refine gh_sld hX dl_1215 (lw_vp hi hL (by decide)) ?_
  refine gh_aload_n dl_1216 rfl ?_
  refine gh_iload_n dl_1217 rfl ?_
  refine gh_iconst dl_1218 (v := nI 4) (by decide) ?_
  refine gh_iadd dl_1219 ?_
  refine gh_sld hX dl_1220 (lw_vp hi hL (by decide)) ?_
  have hw := L_fails (a0 := (xs (nI i + nI 1).toNatClampNeg)) (a1 := (xs (nI i + nI 2).toNatClampNeg)) (a2 := (xs (nI i + nI 3).toNatClampNeg)) (a3 := (xs (nI i + nI 4).toNatClampNeg)) hC hR
  refine gh_callVl (mi' := mi_X6_fails) (as := [vI (xs (nI i + nI 1).toNatClampNeg), vI (xs (nI i + nI 2).toNatClampNeg), vI (xs (nI i + nI 3).toNatClampNeg), vI (xs (nI i + nI 4).toNatClampNeg)]) (S := []) (k := 0) (t := 0) dl_1221 (Or.inl bl_720) ok_X6_fails rfl rfl (by decide) (Nat.le_of_ble_eq_true rfl) (by decide) (by decide) rfl rfl (wk_X6_fails _ _ _ _ _ _ hw) (fun r1 M1 hw => ?_)
  refine gh_aload_n dl_1224 rfl ?_
  refine gh_aload_n dl_1225 rfl ?_
  refine gh_iload_n dl_1226 rfl ?_
  refine gh_iconst dl_1227 (v := nI 1) (by decide) ?_
  refine gh_iadd dl_1228 ?_
  refine gh_sld hX dl_1229 (lw_vp hi hL (by decide)) ?_
  refine gh_aload_n dl_1230 rfl ?_
  refine gh_iload_n dl_1231 rfl ?_
  refine gh_iconst dl_1232 (v := nI 2) (by decide) ?_
  refine gh_iadd dl_1233 ?_
  refine gh_sld hX dl_1234 (lw_vp hi hL (by decide)) ?_
  refine gh_aload_n dl_1235 rfl ?_
  refine gh_iload_n dl_1236 rfl ?_
  refine gh_iconst dl_1237 (v := nI 3) (by decide) ?_
  refine gh_iadd dl_1238 ?_
  refine gh_sld hX dl_1239 (lw_vp hi hL (by decide)) ?_
  refine gh_aload_n dl_1240 rfl ?_
  refine gh_iload_n dl_1241 rfl ?_
  refine gh_iconst dl_1242 (v := nI 4) (by decide) ?_
  refine gh_iadd dl_1243 ?_
  refine gh_sld hX dl_1244 (lw_vp hi hL (by decide)) ?_
  refine gh_callVl (mi' := mi_X7_fails) (as := [vI (xs (nI i + nI 1).toNatClampNeg), vI (xs (nI i + nI 2).toNatClampNeg), vI (xs (nI i + nI 3).toNatClampNeg), vI (xs (nI i + nI 4).toNatClampNeg)]) (S := [vL r1]) (k := 32) (t := 0) dl_1245 (Or.inl bl_1211) ok_X7_fails rfl rfl (by decide) (Nat.le_of_ble_eq_true rfl) (by decide) (by decide) rfl rfl (wk_X7_fails _ _ _ _ _ _ hw) (fun r2 M2 hw => ?_)
  obtain ⟨e, hO2⟩ := hw
  refine gh_lcmp dl_1248 ?_
  exact gh_if_eq (tgt := 1491) dl_1249 rfl (fun _ => hN M2 hO2) (fun h => absurd (by rw [lg_cmp_eq]; exact e) h)
theorem lc_drawn {wd : gh_Wd} {x : gh_X} {M : gh_M} {b L : Nat} {xs : Nat → Int32} {i : Nat} (hX : gh_Sc wd b L xs x) (hi : i + 7 ≤ L) (hL : L ≤ 3584) (hO : OKn M) (hN : ∀ M', OKn M' → gh_J mi_law 1000 wd x M' 1491 (lwL i) []) : gh_J mi_law 1000 wd x M 1254 (lwL i) [] := by
  obtain ⟨S, hC, hR⟩ := hO
  refine gh_aload_n dl_1254 rfl ?_
  refine gh_aload_n dl_1255 rfl ?_
  refine gh_iload_n dl_1256 rfl ?_
  refine gh_iconst dl_1257 (v := nI 1) (by decide) ?_
  refine gh_iadd dl_1258 ?_
  refine gh_sld hX dl_1259 (lw_vp hi hL (by decide)) ?_
  refine gh_aload_n dl_1260 rfl ?_
  refine gh_iload_n dl_1261 rfl ?_
  refine gh_iconst dl_1262 (v := nI 2) (by decide) ?_
  refine gh_iadd dl_1263 ?_
  refine gh_sld hX dl_1264 (lw_vp hi hL (by decide)) ?_
  refine gh_aload_n dl_1265 rfl ?_
  refine gh_iload_n dl_1266 rfl ?_
  refine gh_iconst dl_1267 (v := nI 3) (by decide) ?_
  refine gh_iadd dl_1268 ?_
  refine gh_sld hX dl_1269 (lw_vp hi hL (by decide)) ?_
  have hw := L_drawn (a0 := (xs (nI i + nI 1).toNatClampNeg)) (a1 := (xs (nI i + nI 2).toNatClampNeg)) (a2 := (xs (nI i + nI 3).toNatClampNeg)) hC hR
  refine gh_callVi (mi' := mi_X6_drawn) (as := [vI (xs (nI i + nI 1).toNatClampNeg), vI (xs (nI i + nI 2).toNatClampNeg), vI (xs (nI i + nI 3).toNatClampNeg)]) (S := []) (k := 0) (t := 0) dl_1270 (Or.inl bl_735) ok_X6_drawn rfl rfl (by decide) (Nat.le_of_ble_eq_true rfl) (by decide) (by decide) rfl rfl (wk_X6_drawn _ _ _ _ _ hw) (fun r1 M1 hw => ?_)
  refine gh_aload_n dl_1273 rfl ?_
  refine gh_aload_n dl_1274 rfl ?_
  refine gh_iload_n dl_1275 rfl ?_
  refine gh_iconst dl_1276 (v := nI 1) (by decide) ?_
  refine gh_iadd dl_1277 ?_
  refine gh_sld hX dl_1278 (lw_vp hi hL (by decide)) ?_
  refine gh_aload_n dl_1279 rfl ?_
  refine gh_iload_n dl_1280 rfl ?_
  refine gh_iconst dl_1281 (v := nI 2) (by decide) ?_
  refine gh_iadd dl_1282 ?_
  refine gh_sld hX dl_1283 (lw_vp hi hL (by decide)) ?_
  refine gh_aload_n dl_1284 rfl ?_
  refine gh_iload_n dl_1285 rfl ?_
  refine gh_iconst dl_1286 (v := nI 3) (by decide) ?_
  refine gh_iadd dl_1287 ?_
  refine gh_sld hX dl_1288 (lw_vp hi hL (by decide)) ?_
  refine gh_callVi (mi' := mi_X7_drawn) (as := [vI (xs (nI i + nI 1).toNatClampNeg), vI (xs (nI i + nI 2).toNatClampNeg), vI (xs (nI i + nI 3).toNatClampNeg)]) (S := [vI r1]) (k := 32) (t := 0) dl_1289 (Or.inl bl_1217) ok_X7_drawn rfl rfl (by decide) (Nat.le_of_ble_eq_true rfl) (by decide) (by decide) rfl rfl (wk_X7_drawn _ _ _ _ _ hw) (fun r2 M2 hw => ?_)
  obtain ⟨e, hO2⟩ := hw
  exact gh_icmp_eq (tgt := 1491) dl_1292 rfl (fun _ => hN M2 hO2) (fun h => absurd e h)
theorem lc_image {wd : gh_Wd} {x : gh_X} {M : gh_M} {b L : Nat} {xs : Nat → Int32} {i : Nat} (hX : gh_Sc wd b L xs x) (hi : i + 7 ≤ L) (hL : L ≤ 3584) (hO : OKn M) (hN : ∀ M', OKn M' → gh_J mi_law 1000 wd x M' 1491 (lwL i) []) : gh_J mi_law 1000 wd x M 1297 (lwL i) [] := by
  obtain ⟨S, hC, hR⟩ := hO
  refine gh_aload_n dl_1297 rfl ?_
  refine gh_aload_n dl_1298 rfl ?_
  refine gh_iload_n dl_1299 rfl ?_
  refine gh_iconst dl_1300 (v := nI 1) (by decide) ?_
  refine gh_iadd dl_1301 ?_
  refine gh_sld hX dl_1302 (lw_vp hi hL (by decide)) ?_
  have hw := L_image (a0 := (xs (nI i + nI 1).toNatClampNeg)) hC hR
  refine gh_callVi (mi' := mi_X6_image) (as := [vI (xs (nI i + nI 1).toNatClampNeg)]) (S := []) (k := 0) (t := 0) dl_1303 (Or.inl bl_756) ok_X6_image rfl rfl (by decide) (Nat.le_of_ble_eq_true rfl) (by decide) (by decide) rfl rfl (wk_X6_image _ _ _ hw) (fun r1 M1 hw => ?_)
  refine gh_aload_n dl_1306 rfl ?_
  refine gh_aload_n dl_1307 rfl ?_
  refine gh_iload_n dl_1308 rfl ?_
  refine gh_iconst dl_1309 (v := nI 1) (by decide) ?_
  refine gh_iadd dl_1310 ?_
  refine gh_sld hX dl_1311 (lw_vp hi hL (by decide)) ?_
  refine gh_callVi (mi' := mi_X7_image) (as := [vI (xs (nI i + nI 1).toNatClampNeg)]) (S := [vI r1]) (k := 32) (t := 0) dl_1312 (Or.inl bl_1225) ok_X7_image rfl rfl (by decide) (Nat.le_of_ble_eq_true rfl) (by decide) (by decide) rfl rfl (wk_X7_image _ _ _ hw) (fun r2 M2 hw => ?_)
  obtain ⟨e, hO2⟩ := hw
  exact gh_icmp_eq (tgt := 1491) dl_1315 rfl (fun _ => hN M2 hO2) (fun h => absurd e h)
theorem lc_restore {wd : gh_Wd} {x : gh_X} {M : gh_M} {b L : Nat} {xs : Nat → Int32} {i : Nat} (hX : gh_Sc wd b L xs x) (hi : i + 7 ≤ L) (hL : L ≤ 3584) (hO : OKn M) (hN : ∀ M', OKn M' → gh_J mi_law 1000 wd x M' 1491 (lwL i) []) : gh_J mi_law 1000 wd x M 1320 (lwL i) [] := by
  obtain ⟨S, hC, hR⟩ := hO
  refine gh_aload_n dl_1320 rfl ?_
  refine gh_aload_n dl_1321 rfl ?_
  refine gh_iload_n dl_1322 rfl ?_
  refine gh_iconst dl_1323 (v := nI 1) (by decide) ?_
  refine gh_iadd dl_1324 ?_
  refine gh_sld hX dl_1325 (lw_vp hi hL (by decide)) ?_
  have hw := L_restore (a0 := (xs (nI i + nI 1).toNatClampNeg)) hC hR
  refine gh_callVi (mi' := mi_X6_restore) (as := [vI (xs (nI i + nI 1).toNatClampNeg)]) (S := []) (k := 0) (t := 0) dl_1326 (Or.inl bl_760) ok_X6_restore rfl rfl (by decide) (Nat.le_of_ble_eq_true rfl) (by decide) (by decide) rfl rfl (wk_X6_restore _ _ _ hw) (fun r1 M1 hw => ?_)
  refine gh_aload_n dl_1329 rfl ?_
  refine gh_aload_n dl_1330 rfl ?_
  refine gh_iload_n dl_1331 rfl ?_
  refine gh_iconst dl_1332 (v := nI 1) (by decide) ?_
  refine gh_iadd dl_1333 ?_
  refine gh_sld hX dl_1334 (lw_vp hi hL (by decide)) ?_
  refine gh_callVi (mi' := mi_X7_restore) (as := [vI (xs (nI i + nI 1).toNatClampNeg)]) (S := [vI r1]) (k := 32) (t := 0) dl_1335 (Or.inl bl_1229) ok_X7_restore rfl rfl (by decide) (Nat.le_of_ble_eq_true rfl) (by decide) (by decide) rfl rfl (wk_X7_restore _ _ _ hw) (fun r2 M2 hw => ?_)
  obtain ⟨e, hO2⟩ := hw
  exact gh_icmp_eq (tgt := 1491) dl_1338 rfl (fun _ => hN M2 hO2) (fun h => absurd e h)
theorem lc_kind {wd : gh_Wd} {x : gh_X} {M : gh_M} {b L : Nat} {xs : Nat → Int32} {i : Nat} (hX : gh_Sc wd b L xs x) (hi : i + 7 ≤ L) (hL : L ≤ 3584) (hO : OKn M) (hN : ∀ M', OKn M' → gh_J mi_law 1000 wd x M' 1491 (lwL i) []) : gh_J mi_law 1000 wd x M 1343 (lwL i) [] := by
  obtain ⟨S, hC, hR⟩ := hO
  refine gh_aload_n dl_1343 rfl ?_
  refine gh_aload_n dl_1344 rfl ?_
  refine gh_iload_n dl_1345 rfl ?_
  refine gh_iconst dl_1346 (v := nI 1) (by decide) ?_
  refine gh_iadd dl_1347 ?_
  refine gh_sld hX dl_1348 (lw_vp hi hL (by decide)) ?_
  have hw := L_kind (a0 := (xs (nI i + nI 1).toNatClampNeg)) hC hR
  refine gh_callVi (mi' := mi_X6_kind) (as := [vI (xs (nI i + nI 1).toNatClampNeg)]) (S := []) (k := 0) (t := 0) dl_1349 (Or.inl bl_764) ok_X6_kind rfl rfl (by decide) (Nat.le_of_ble_eq_true rfl) (by decide) (by decide) rfl rfl (wk_X6_kind _ _ _ hw) (fun r1 M1 hw => ?_)
  refine gh_aload_n dl_1352 rfl ?_
  refine gh_aload_n dl_1353 rfl ?_
  refine gh_iload_n dl_1354 rfl ?_
  refine gh_iconst dl_1355 (v := nI 1) (by decide) ?_
  refine gh_iadd dl_1356 ?_
  refine gh_sld hX dl_1357 (lw_vp hi hL (by decide)) ?_
  refine gh_callVi (mi' := mi_X7_kind) (as := [vI (xs (nI i + nI 1).toNatClampNeg)]) (S := [vI r1]) (k := 32) (t := 0) dl_1358 (Or.inl bl_1233) ok_X7_kind rfl rfl (by decide) (Nat.le_of_ble_eq_true rfl) (by decide) (by decide) rfl rfl (wk_X7_kind _ _ _ hw) (fun r2 M2 hw => ?_)
  obtain ⟨e, hO2⟩ := hw
  exact gh_icmp_eq (tgt := 1491) dl_1361 rfl (fun _ => hN M2 hO2) (fun h => absurd e h)
theorem lc_as {wd : gh_Wd} {x : gh_X} {M : gh_M} {b L : Nat} {xs : Nat → Int32} {i : Nat} (hX : gh_Sc wd b L xs x) (hi : i + 7 ≤ L) (hL : L ≤ 3584) (hO : OKn M) (hN : ∀ M', OKn M' → gh_J mi_law 1000 wd x M' 1491 (lwL i) []) : gh_J mi_law 1000 wd x M 1366 (lwL i) [] := by
  obtain ⟨S, hC, hR⟩ := hO
  refine gh_aload_n dl_1366 rfl ?_
  refine gh_aload_n dl_1367 rfl ?_
  refine gh_iload_n dl_1368 rfl ?_
  refine gh_iconst dl_1369 (v := nI 1) (by decide) ?_
  refine gh_iadd dl_1370 ?_
  refine gh_sld hX dl_1371 (lw_vp hi hL (by decide)) ?_
  refine gh_aload_n dl_1372 rfl ?_
  refine gh_iload_n dl_1373 rfl ?_
  refine gh_iconst dl_1374 (v := nI 2) (by decide) ?_
  refine gh_iadd dl_1375 ?_
  refine gh_sld hX dl_1376 (lw_vp hi hL (by decide)) ?_
  have hw := L_as (a0 := (xs (nI i + nI 1).toNatClampNeg)) (a1 := (xs (nI i + nI 2).toNatClampNeg)) hC hR
  refine gh_callVi (mi' := mi_X6_as) (as := [vI (xs (nI i + nI 1).toNatClampNeg), vI (xs (nI i + nI 2).toNatClampNeg)]) (S := []) (k := 0) (t := 0) dl_1377 (Or.inl bl_768) ok_X6_as rfl rfl (by decide) (Nat.le_of_ble_eq_true rfl) (by decide) (by decide) rfl rfl (wk_X6_as _ _ _ _ hw) (fun r1 M1 hw => ?_)
  refine gh_aload_n dl_1380 rfl ?_
  refine gh_aload_n dl_1381 rfl ?_
  refine gh_iload_n dl_1382 rfl ?_
  refine gh_iconst dl_1383 (v := nI 1) (by decide) ?_
  refine gh_iadd dl_1384 ?_
  refine gh_sld hX dl_1385 (lw_vp hi hL (by decide)) ?_
  refine gh_aload_n dl_1386 rfl ?_
  refine gh_iload_n dl_1387 rfl ?_
  refine gh_iconst dl_1388 (v := nI 2) (by decide) ?_
  refine gh_iadd dl_1389 ?_
  refine gh_sld hX dl_1390 (lw_vp hi hL (by decide)) ?_
  refine gh_callVi (mi' := mi_X7_as) (as := [vI (xs (nI i + nI 1).toNatClampNeg), vI (xs (nI i + nI 2).toNatClampNeg)]) (S := [vI r1]) (k := 32) (t := 0) dl_1391 (Or.inl bl_1241) ok_X7_as rfl rfl (by decide) (Nat.le_of_ble_eq_true rfl) (by decide) (by decide) rfl rfl (wk_X7_as _ _ _ _ hw) (fun r2 M2 hw => ?_)
  obtain ⟨e, hO2⟩ := hw
  exact gh_icmp_eq (tgt := 1491) dl_1394 rfl (fun _ => hN M2 hO2) (fun h => absurd e h)
theorem lc_ask {wd : gh_Wd} {x : gh_X} {M : gh_M} {b L : Nat} {xs : Nat → Int32} {i : Nat} (hX : gh_Sc wd b L xs x) (hi : i + 7 ≤ L) (hL : L ≤ 3584) (hO : OKn M) (hN : ∀ M', OKn M' → gh_J mi_law 1000 wd x M' 1491 (lwL i) []) : gh_J mi_law 1000 wd x M 1399 (lwL i) [] := by
  obtain ⟨S, hC, hR⟩ := hO
  refine gh_aload_n dl_1399 rfl ?_
  refine gh_aload_n dl_1400 rfl ?_
  refine gh_iload_n dl_1401 rfl ?_
  refine gh_iconst dl_1402 (v := nI 1) (by decide) ?_
  refine gh_iadd dl_1403 ?_
  refine gh_sld hX dl_1404 (lw_vp hi hL (by decide)) ?_
  refine gh_aload_n dl_1405 rfl ?_
  refine gh_iload_n dl_1406 rfl ?_
  refine gh_iconst dl_1407 (v := nI 2) (by decide) ?_
  refine gh_iadd dl_1408 ?_
  refine gh_sld hX dl_1409 (lw_vp hi hL (by decide)) ?_
  have hw := L_ask (a0 := (xs (nI i + nI 1).toNatClampNeg)) (a1 := (xs (nI i + nI 2).toNatClampNeg)) hC hR
  refine gh_callVi (mi' := mi_X6_ask) (as := [vI (xs (nI i + nI 1).toNatClampNeg), vI (xs (nI i + nI 2).toNatClampNeg)]) (S := []) (k := 0) (t := 0) dl_1410 (Or.inl bl_777) ok_X6_ask rfl rfl (by decide) (Nat.le_of_ble_eq_true rfl) (by decide) (by decide) rfl rfl (wk_X6_ask _ _ _ _ hw) (fun r1 M1 hw => ?_)
  refine gh_aload_n dl_1413 rfl ?_
  refine gh_aload_n dl_1414 rfl ?_
  refine gh_iload_n dl_1415 rfl ?_
  refine gh_iconst dl_1416 (v := nI 1) (by decide) ?_
  refine gh_iadd dl_1417 ?_
  refine gh_sld hX dl_1418 (lw_vp hi hL (by decide)) ?_
  refine gh_aload_n dl_1419 rfl ?_
  refine gh_iload_n dl_1420 rfl ?_
  refine gh_iconst dl_1421 (v := nI 2) (by decide) ?_
  refine gh_iadd dl_1422 ?_
  refine gh_sld hX dl_1423 (lw_vp hi hL (by decide)) ?_
  refine gh_callVi (mi' := mi_X7_ask) (as := [vI (xs (nI i + nI 1).toNatClampNeg), vI (xs (nI i + nI 2).toNatClampNeg)]) (S := [vI r1]) (k := 32) (t := 0) dl_1424 (Or.inl bl_1245) ok_X7_ask rfl rfl (by decide) (Nat.le_of_ble_eq_true rfl) (by decide) (by decide) rfl rfl (wk_X7_ask _ _ _ _ hw) (fun r2 M2 hw => ?_)
  obtain ⟨e, hO2⟩ := hw
  exact gh_icmp_eq (tgt := 1491) dl_1427 rfl (fun _ => hN M2 hO2) (fun h => absurd e h)
theorem lc_trace {wd : gh_Wd} {x : gh_X} {M : gh_M} {b L : Nat} {xs : Nat → Int32} {i : Nat} (hX : gh_Sc wd b L xs x) (hi : i + 7 ≤ L) (hL : L ≤ 3584) (hO : OKn M) (hN : ∀ M', OKn M' → gh_J mi_law 1000 wd x M' 1491 (lwL i) []) : gh_J mi_law 1000 wd x M 1432 (lwL i) [] := by
  obtain ⟨S, hC, hR⟩ := hO
  refine gh_aload_n dl_1432 rfl ?_
  refine gh_aload_n dl_1433 rfl ?_
  refine gh_iload_n dl_1434 rfl ?_
  refine gh_iconst dl_1435 (v := nI 1) (by decide) ?_
  refine gh_iadd dl_1436 ?_
  refine gh_sld hX dl_1437 (lw_vp hi hL (by decide)) ?_
  have hw := L_trace (a0 := (xs (nI i + nI 1).toNatClampNeg)) hC hR
  refine gh_callVi (mi' := mi_X6_trace) (as := [vI (xs (nI i + nI 1).toNatClampNeg)]) (S := []) (k := 0) (t := 0) dl_1438 (Or.inl bl_798) ok_X6_trace rfl rfl (by decide) (Nat.le_of_ble_eq_true rfl) (by decide) (by decide) rfl rfl (wk_X6_trace _ _ _ hw) (fun r1 M1 hw => ?_)
  refine gh_aload_n dl_1441 rfl ?_
  refine gh_aload_n dl_1442 rfl ?_
  refine gh_iload_n dl_1443 rfl ?_
  refine gh_iconst dl_1444 (v := nI 1) (by decide) ?_
  refine gh_iadd dl_1445 ?_
  refine gh_sld hX dl_1446 (lw_vp hi hL (by decide)) ?_
  refine gh_callVi (mi' := mi_X7_trace) (as := [vI (xs (nI i + nI 1).toNatClampNeg)]) (S := [vI r1]) (k := 32) (t := 0) dl_1447 (Or.inl bl_1285) ok_X7_trace rfl rfl (by decide) (Nat.le_of_ble_eq_true rfl) (by decide) (by decide) rfl rfl (wk_X7_trace _ _ _ hw) (fun r2 M2 hw => ?_)
  obtain ⟨e, hO2⟩ := hw
  exact gh_icmp_eq (tgt := 1491) dl_1450 rfl (fun _ => hN M2 hO2) (fun h => absurd e h)
theorem lc_count {wd : gh_Wd} {x : gh_X} {M : gh_M} {b L : Nat} {xs : Nat → Int32} {i : Nat} (hX : gh_Sc wd b L xs x) (hi : i + 7 ≤ L) (hL : L ≤ 3584) (hO : OKn M) (hN : ∀ M', OKn M' → gh_J mi_law 1000 wd x M' 1491 (lwL i) []) : gh_J mi_law 1000 wd x M 1455 (lwL i) [] := by
  obtain ⟨S, hC, hR⟩ := hO
  refine gh_aload_n dl_1455 rfl ?_
  refine gh_aload_n dl_1456 rfl ?_
  refine gh_iload_n dl_1457 rfl ?_
  refine gh_iconst dl_1458 (v := nI 1) (by decide) ?_
  refine gh_iadd dl_1459 ?_
  refine gh_sld hX dl_1460 (lw_vp hi hL (by decide)) ?_
  have hw := L_count (a0 := (xs (nI i + nI 1).toNatClampNeg)) hC hR
  refine gh_callVi (mi' := mi_X6_count) (as := [vI (xs (nI i + nI 1).toNatClampNeg)]) (S := []) (k := 0) (t := 0) dl_1461 (Or.inl bl_802) ok_X6_count rfl rfl (by decide) (Nat.le_of_ble_eq_true rfl) (by decide) (by decide) rfl rfl (wk_X6_count _ _ _ hw) (fun r1 M1 hw => ?_)
  refine gh_aload_n dl_1464 rfl ?_
  refine gh_aload_n dl_1465 rfl ?_
  refine gh_iload_n dl_1466 rfl ?_
  refine gh_iconst dl_1467 (v := nI 1) (by decide) ?_
  refine gh_iadd dl_1468 ?_
  refine gh_sld hX dl_1469 (lw_vp hi hL (by decide)) ?_
  refine gh_callVi (mi' := mi_X7_count) (as := [vI (xs (nI i + nI 1).toNatClampNeg)]) (S := [vI r1]) (k := 32) (t := 0) dl_1470 (Or.inl bl_1289) ok_X7_count rfl rfl (by decide) (Nat.le_of_ble_eq_true rfl) (by decide) (by decide) rfl rfl (wk_X7_count _ _ _ hw) (fun r2 M2 hw => ?_)
  obtain ⟨e, hO2⟩ := hw
  exact gh_icmp_eq (tgt := 1491) dl_1473 rfl (fun _ => hN M2 hO2) (fun h => absurd e h)
theorem lc_status {wd : gh_Wd} {x : gh_X} {M : gh_M} {b L : Nat} {xs : Nat → Int32} {i : Nat} (hX : gh_Sc wd b L xs x) (hi : i + 7 ≤ L) (hL : L ≤ 3584) (hO : OKn M) (hN : ∀ M', OKn M' → gh_J mi_law 1000 wd x M' 1491 (lwL i) []) : gh_J mi_law 1000 wd x M 1478 (lwL i) [] := by
  obtain ⟨S, hC, hR⟩ := hO
  refine gh_aload_n dl_1478 rfl ?_
  have hw := L_status  hC hR
  refine gh_callVi (mi' := mi_X6_status) (as := []) (S := []) (k := 0) (t := 0) dl_1479 (Or.inl bl_811) ok_X6_status rfl rfl (by decide) (Nat.le_of_ble_eq_true rfl) (by decide) (by decide) rfl rfl (wk_X6_status _ _ hw) (fun r1 M1 hw => ?_)
  refine gh_aload_n dl_1482 rfl ?_
  refine gh_callVi (mi' := mi_X7_status) (as := []) (S := [vI r1]) (k := 32) (t := 0) dl_1483 (Or.inl bl_1297) ok_X7_status rfl rfl (by decide) (Nat.le_of_ble_eq_true rfl) (by decide) (by decide) rfl rfl (wk_X7_status _ _ hw) (fun r2 M2 hw => ?_)
  obtain ⟨e, hO2⟩ := hw
  exact gh_icmp_eq (tgt := 1491) dl_1486 rfl (fun _ => hN M2 hO2) (fun h => absurd e h)
