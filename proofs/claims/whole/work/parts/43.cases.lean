section
variable {p : Program} {l : Launch} {e : Env} {s : State} {m : MethodId} {args : Array Value} {below : List Frame} {meth : Method} {c : Code} {H : Heap} {locs : List Loc} {cells slots : Nat} {Q : State → Prop} {K : Kx} {A : Nat → Prop} {ls : Array Slot} {b L i : Nat} {xs : Nat → Int32} {Rel : Mem → Mem → Prop} {Mc Mm : Mem} {a d a2 : Nat → Nat}
set_option maxRecDepth 100000 in
set_option maxHeartbeats 1000000 in
theorem lc_0 (hF : Fx p s m args c code 4 RL K A) (hX : va_X b L xs s s.heap) (hbl : b < s.heap.size) (hbA : ¬ A b) (hi : i + 6 ≤ L) (hL : L ≤ 3072) (hsim : Sim_size Rel) (hRel : Rel Mc Mm) (hW : Wd K A s (wC K a d Mc ++ wM K a2 Mm) H locs) (hl : lv_has ls 4 [(0, .ref b), (1, .ref (a 0)), (2, .ref (a2 0)), (3, .int (nI i))]) (hce : cells + 3 ≤ 600000) (hsl : slots + 1358 ≤ 7302250)
    (kk : ∀ (Mc1 Mm1 : Mem) (d : Nat → Nat) (H : Heap) (locs : List Loc), Rel Mc1 Mm1 → Wd K A s (wC K a d Mc1 ++ wM K a2 Mm1) H locs → W p l e room_1 s m args below meth c H locs (cells + 3) (slots + 1358) Q (F0 m 1930 ls [])) : W p l e room_1 s m args below meth c H locs cells slots Q (F0 m 240 ls []) := by
  have hx := hF.1
  have hb := hF.2.1
  refine lv_aload_n hx hb dL_law_240 rfl (lv_at hl 1 rfl) ?_
  refine lv_aload_n hx hb dL_law_241 rfl (lv_at hl 0 rfl) ?_
  refine lv_iload_n hx hb dL_law_242 rfl (lv_at hl 3 rfl) ?_
  refine lv_iconst (v := 1) hx hb dL_law_243 (by decide) ?_
  refine lv_iadd hx hb dL_law_244 ?_
  refine va_sld hx hb hX hbl hbA hW.2.2 (si1 hi hL) dL_law_245 ?_
  refine lv_aload_n hx hb dL_law_246 rfl (lv_at hl 0 rfl) ?_
  refine lv_iload_n hx hb dL_law_247 rfl (lv_at hl 3 rfl) ?_
  refine lv_iconst (v := 2) hx hb dL_law_248 (by decide) ?_
  refine lv_iadd hx hb dL_law_249 ?_
  refine va_sld hx hb hX hbl hbA hW.2.2 (si2 hi hL) dL_law_250 ?_
  obtain ⟨r, Mc1, Mm1, h1, h2, hRel1⟩ := hsim Mc Mm (xs (nI i + 1).toNatClampNeg) (xs (nI i + 2).toNatClampNeg) hRel
  refine cVf_i (ci := 11) (q0 := 0) (rest := []) hF hW mw_L_13 (c_X11_size l K a d h1) ⟨by decide, by decide⟩ rfl rfl (pC_0 K a d _) rfl hl.1 rfl (Nat.le_of_ble_eq_true rfl) dL_law_251 ⟨by dsimp only [room_1]; omega, by dsimp only [room_1]; omega⟩ (fun _ H locs hW => ?_)
  have hW := wd_comm hW
  refine lv_aload_n hx hb dL_law_254 rfl (lv_at hl 2 rfl) ?_
  refine lv_aload_n hx hb dL_law_255 rfl (lv_at hl 0 rfl) ?_
  refine lv_iload_n hx hb dL_law_256 rfl (lv_at hl 3 rfl) ?_
  refine lv_iconst (v := 1) hx hb dL_law_257 (by decide) ?_
  refine lv_iadd hx hb dL_law_258 ?_
  refine va_sld hx hb hX hbl hbA hW.2.2 (si1 hi hL) dL_law_259 ?_
  refine lv_aload_n hx hb dL_law_260 rfl (lv_at hl 0 rfl) ?_
  refine lv_iload_n hx hb dL_law_261 rfl (lv_at hl 3 rfl) ?_
  refine lv_iconst (v := 2) hx hb dL_law_262 (by decide) ?_
  refine lv_iadd hx hb dL_law_263 ?_
  refine va_sld hx hb hX hbl hbA hW.2.2 (si2 hi hL) dL_law_264 ?_
  refine cVf_i (ci := 12) (q0 := 0) (rest := [.int r]) hF hW mw_L_17 (c_X12_size l K a2 h2) ⟨by decide, by decide⟩ rfl rfl (pM_0 K a2 _) rfl hl.1 rfl (Nat.le_of_ble_eq_true rfl) dL_law_265 ⟨by dsimp only [room_1]; omega, by dsimp only [room_1]; omega⟩ (fun _ H locs hW => ?_)
  have hW := wd_comm hW
  refine lv_icmp_eq (tgt := 1930) hx hb dL_law_268 (by decide) (fun _ => ?_) (fun z => absurd rfl z)
  refine W.widen (k := cells + 3) (n := slots + 1358) (by dsimp only; omega) (by dsimp only; omega) ?_
  exact kk _ _ d _ _ hRel1 hW
set_option maxRecDepth 100000 in
set_option maxHeartbeats 1000000 in
theorem lc_1 (hF : Fx p s m args c code 4 RL K A) (hX : va_X b L xs s s.heap) (hbl : b < s.heap.size) (hbA : ¬ A b) (hi : i + 6 ≤ L) (hL : L ≤ 3072) (hsim : Sim_term Rel) (hRel : Rel Mc Mm) (hW : Wd K A s (wC K a d Mc ++ wM K a2 Mm) H locs) (hl : lv_has ls 4 [(0, .ref b), (1, .ref (a 0)), (2, .ref (a2 0)), (3, .int (nI i))]) (hce : cells + 3 ≤ 600000) (hsl : slots + 1358 ≤ 7302250)
    (kk : ∀ (Mc1 Mm1 : Mem) (d : Nat → Nat) (H : Heap) (locs : List Loc), Rel Mc1 Mm1 → Wd K A s (wC K a d Mc1 ++ wM K a2 Mm1) H locs → W p l e room_1 s m args below meth c H locs (cells + 3) (slots + 1358) Q (F0 m 1930 ls [])) : W p l e room_1 s m args below meth c H locs cells slots Q (F0 m 273 ls []) := by
  have hx := hF.1
  have hb := hF.2.1
  refine lv_aload_n hx hb dL_law_273 rfl (lv_at hl 1 rfl) ?_
  refine lv_aload_n hx hb dL_law_274 rfl (lv_at hl 0 rfl) ?_
  refine lv_iload_n hx hb dL_law_275 rfl (lv_at hl 3 rfl) ?_
  refine lv_iconst (v := 1) hx hb dL_law_276 (by decide) ?_
  refine lv_iadd hx hb dL_law_277 ?_
  refine va_sld hx hb hX hbl hbA hW.2.2 (si1 hi hL) dL_law_278 ?_
  refine lv_aload_n hx hb dL_law_279 rfl (lv_at hl 0 rfl) ?_
  refine lv_iload_n hx hb dL_law_280 rfl (lv_at hl 3 rfl) ?_
  refine lv_iconst (v := 2) hx hb dL_law_281 (by decide) ?_
  refine lv_iadd hx hb dL_law_282 ?_
  refine va_sld hx hb hX hbl hbA hW.2.2 (si2 hi hL) dL_law_283 ?_
  obtain ⟨r, Mc1, Mm1, h1, h2, hRel1⟩ := hsim Mc Mm (xs (nI i + 1).toNatClampNeg) (xs (nI i + 2).toNatClampNeg) hRel
  refine cVf_i (ci := 11) (q0 := 0) (rest := []) hF hW mw_L_18 (c_X11_term l K a d h1) ⟨by decide, by decide⟩ rfl rfl (pC_0 K a d _) rfl hl.1 rfl (Nat.le_of_ble_eq_true rfl) dL_law_284 ⟨by dsimp only [room_1]; omega, by dsimp only [room_1]; omega⟩ (fun _ H locs hW => ?_)
  have hW := wd_comm hW
  refine lv_aload_n hx hb dL_law_287 rfl (lv_at hl 2 rfl) ?_
  refine lv_aload_n hx hb dL_law_288 rfl (lv_at hl 0 rfl) ?_
  refine lv_iload_n hx hb dL_law_289 rfl (lv_at hl 3 rfl) ?_
  refine lv_iconst (v := 1) hx hb dL_law_290 (by decide) ?_
  refine lv_iadd hx hb dL_law_291 ?_
  refine va_sld hx hb hX hbl hbA hW.2.2 (si1 hi hL) dL_law_292 ?_
  refine lv_aload_n hx hb dL_law_293 rfl (lv_at hl 0 rfl) ?_
  refine lv_iload_n hx hb dL_law_294 rfl (lv_at hl 3 rfl) ?_
  refine lv_iconst (v := 2) hx hb dL_law_295 (by decide) ?_
  refine lv_iadd hx hb dL_law_296 ?_
  refine va_sld hx hb hX hbl hbA hW.2.2 (si2 hi hL) dL_law_297 ?_
  refine cVf_i (ci := 12) (q0 := 0) (rest := [.int r]) hF hW mw_L_21 (c_X12_term l K a2 h2) ⟨by decide, by decide⟩ rfl rfl (pM_0 K a2 _) rfl hl.1 rfl (Nat.le_of_ble_eq_true rfl) dL_law_298 ⟨by dsimp only [room_1]; omega, by dsimp only [room_1]; omega⟩ (fun _ H locs hW => ?_)
  have hW := wd_comm hW
  refine lv_icmp_eq (tgt := 1930) hx hb dL_law_301 (by decide) (fun _ => ?_) (fun z => absurd rfl z)
  refine W.widen (k := cells + 3) (n := slots + 1358) (by dsimp only; omega) (by dsimp only; omega) ?_
  exact kk _ _ d _ _ hRel1 hW
set_option maxRecDepth 100000 in
set_option maxHeartbeats 1000000 in
theorem lc_2 (hF : Fx p s m args c code 4 RL K A) (hX : va_X b L xs s s.heap) (hbl : b < s.heap.size) (hbA : ¬ A b) (hi : i + 6 ≤ L) (hL : L ≤ 3072) (hsim : Sim_sum Rel) (hRel : Rel Mc Mm) (hW : Wd K A s (wC K a d Mc ++ wM K a2 Mm) H locs) (hl : lv_has ls 4 [(0, .ref b), (1, .ref (a 0)), (2, .ref (a2 0)), (3, .int (nI i))]) (hce : cells + 3 ≤ 600000) (hsl : slots + 1358 ≤ 7302250)
    (kk : ∀ (Mc1 Mm1 : Mem) (d : Nat → Nat) (H : Heap) (locs : List Loc), Rel Mc1 Mm1 → Wd K A s (wC K a d Mc1 ++ wM K a2 Mm1) H locs → W p l e room_1 s m args below meth c H locs (cells + 3) (slots + 1358) Q (F0 m 1930 ls [])) : W p l e room_1 s m args below meth c H locs cells slots Q (F0 m 306 ls []) := by
  have hx := hF.1
  have hb := hF.2.1
  refine lv_aload_n hx hb dL_law_306 rfl (lv_at hl 1 rfl) ?_
  obtain ⟨r, Mc1, Mm1, h1, h2, hRel1⟩ := hsim Mc Mm hRel
  refine cVf_i (ci := 11) (q0 := 0) (rest := []) hF hW mw_L_22 (c_X11_sum l K a d h1) ⟨by decide, by decide⟩ rfl rfl (pC_0 K a d _) rfl hl.1 rfl (Nat.le_of_ble_eq_true rfl) dL_law_307 ⟨by dsimp only [room_1]; omega, by dsimp only [room_1]; omega⟩ (fun _ H locs hW => ?_)
  have hW := wd_comm hW
  refine lv_aload_n hx hb dL_law_310 rfl (lv_at hl 2 rfl) ?_
  refine cVf_i (ci := 12) (q0 := 0) (rest := [.int r]) hF hW mw_L_26 (c_X12_sum l K a2 h2) ⟨by decide, by decide⟩ rfl rfl (pM_0 K a2 _) rfl hl.1 rfl (Nat.le_of_ble_eq_true rfl) dL_law_311 ⟨by dsimp only [room_1]; omega, by dsimp only [room_1]; omega⟩ (fun _ H locs hW => ?_)
  have hW := wd_comm hW
  refine lv_icmp_eq (tgt := 1930) hx hb dL_law_314 (by decide) (fun _ => ?_) (fun z => absurd rfl z)
  refine W.widen (k := cells + 3) (n := slots + 1358) (by dsimp only; omega) (by dsimp only; omega) ?_
  exact kk _ _ d _ _ hRel1 hW
set_option maxRecDepth 100000 in
set_option maxHeartbeats 1000000 in
theorem lc_3 (hF : Fx p s m args c code 4 RL K A) (hX : va_X b L xs s s.heap) (hbl : b < s.heap.size) (hbA : ¬ A b) (hi : i + 6 ≤ L) (hL : L ≤ 3072) (hsim : Sim_loop Rel) (hRel : Rel Mc Mm) (hW : Wd K A s (wC K a d Mc ++ wM K a2 Mm) H locs) (hl : lv_has ls 4 [(0, .ref b), (1, .ref (a 0)), (2, .ref (a2 0)), (3, .int (nI i))]) (hce : cells + 3 ≤ 600000) (hsl : slots + 1358 ≤ 7302250)
    (kk : ∀ (Mc1 Mm1 : Mem) (d : Nat → Nat) (H : Heap) (locs : List Loc), Rel Mc1 Mm1 → Wd K A s (wC K a d Mc1 ++ wM K a2 Mm1) H locs → W p l e room_1 s m args below meth c H locs (cells + 3) (slots + 1358) Q (F0 m 1930 ls [])) : W p l e room_1 s m args below meth c H locs cells slots Q (F0 m 319 ls []) := by
  have hx := hF.1
  have hb := hF.2.1
  refine lv_aload_n hx hb dL_law_319 rfl (lv_at hl 1 rfl) ?_
  refine lv_aload_n hx hb dL_law_320 rfl (lv_at hl 0 rfl) ?_
  refine lv_iload_n hx hb dL_law_321 rfl (lv_at hl 3 rfl) ?_
  refine lv_iconst (v := 1) hx hb dL_law_322 (by decide) ?_
  refine lv_iadd hx hb dL_law_323 ?_
  refine va_sld hx hb hX hbl hbA hW.2.2 (si1 hi hL) dL_law_324 ?_
  refine lv_aload_n hx hb dL_law_325 rfl (lv_at hl 0 rfl) ?_
  refine lv_iload_n hx hb dL_law_326 rfl (lv_at hl 3 rfl) ?_
  refine lv_iconst (v := 2) hx hb dL_law_327 (by decide) ?_
  refine lv_iadd hx hb dL_law_328 ?_
  refine va_sld hx hb hX hbl hbA hW.2.2 (si2 hi hL) dL_law_329 ?_
  refine lv_aload_n hx hb dL_law_330 rfl (lv_at hl 0 rfl) ?_
  refine lv_iload_n hx hb dL_law_331 rfl (lv_at hl 3 rfl) ?_
  refine lv_iconst (v := 3) hx hb dL_law_332 (by decide) ?_
  refine lv_iadd hx hb dL_law_333 ?_
  refine va_sld hx hb hX hbl hbA hW.2.2 (si3 hi hL) dL_law_334 ?_
  refine lv_aload_n hx hb dL_law_335 rfl (lv_at hl 0 rfl) ?_
  refine lv_iload_n hx hb dL_law_336 rfl (lv_at hl 3 rfl) ?_
  refine lv_iconst (v := 4) hx hb dL_law_337 (by decide) ?_
  refine lv_iadd hx hb dL_law_338 ?_
  refine va_sld hx hb hX hbl hbA hW.2.2 (si4 hi hL) dL_law_339 ?_
  refine lv_if_eq (tgt := 347) hx hb dL_law_340 (by decide) (fun q0 => ?_) (fun q0 => ?_)
  · refine lv_iconst (v := 0) hx hb dL_law_347 (by decide) ?_
    obtain ⟨r, Mc1, Mm1, h1, h2, hRel1⟩ := hsim Mc Mm (xs (nI i + 1).toNatClampNeg) (xs (nI i + 2).toNatClampNeg) (xs (nI i + 3).toNatClampNeg) false hRel
    refine cVf_i (ci := 11) (q0 := 0) (rest := []) hF hW mw_L_27 (c_X11_loop l K a d h1) ⟨by decide, by decide⟩ rfl rfl (pC_0 K a d _) rfl hl.1 rfl (Nat.le_of_ble_eq_true rfl) dL_law_348 ⟨by dsimp only [room_1]; omega, by dsimp only [room_1]; omega⟩ (fun _ H locs hW => ?_)
    have hW := wd_comm hW
    refine lv_aload_n hx hb dL_law_351 rfl (lv_at hl 2 rfl) ?_
    refine lv_aload_n hx hb dL_law_352 rfl (lv_at hl 0 rfl) ?_
    refine lv_iload_n hx hb dL_law_353 rfl (lv_at hl 3 rfl) ?_
    refine lv_iconst (v := 1) hx hb dL_law_354 (by decide) ?_
    refine lv_iadd hx hb dL_law_355 ?_
    refine va_sld hx hb hX hbl hbA hW.2.2 (si1 hi hL) dL_law_356 ?_
    refine lv_aload_n hx hb dL_law_357 rfl (lv_at hl 0 rfl) ?_
    refine lv_iload_n hx hb dL_law_358 rfl (lv_at hl 3 rfl) ?_
    refine lv_iconst (v := 2) hx hb dL_law_359 (by decide) ?_
    refine lv_iadd hx hb dL_law_360 ?_
    refine va_sld hx hb hX hbl hbA hW.2.2 (si2 hi hL) dL_law_361 ?_
    refine lv_aload_n hx hb dL_law_362 rfl (lv_at hl 0 rfl) ?_
    refine lv_iload_n hx hb dL_law_363 rfl (lv_at hl 3 rfl) ?_
    refine lv_iconst (v := 3) hx hb dL_law_364 (by decide) ?_
    refine lv_iadd hx hb dL_law_365 ?_
    refine va_sld hx hb hX hbl hbA hW.2.2 (si3 hi hL) dL_law_366 ?_
    refine lv_aload_n hx hb dL_law_367 rfl (lv_at hl 0 rfl) ?_
    refine lv_iload_n hx hb dL_law_368 rfl (lv_at hl 3 rfl) ?_
    refine lv_iconst (v := 4) hx hb dL_law_369 (by decide) ?_
    refine lv_iadd hx hb dL_law_370 ?_
    refine va_sld hx hb hX hbl hbA hW.2.2 (si4 hi hL) dL_law_371 ?_
    refine lv_if_eq (tgt := 379) hx hb dL_law_372 (by decide) (fun _ => ?_) (fun z => absurd q0 z)
    refine lv_iconst (v := 0) hx hb dL_law_379 (by decide) ?_
    refine cVf_i (ci := 12) (q0 := 0) (rest := [.int r]) hF hW mw_L_31 (c_X12_loop l K a2 h2) ⟨by decide, by decide⟩ rfl rfl (pM_0 K a2 _) rfl hl.1 rfl (Nat.le_of_ble_eq_true rfl) dL_law_380 ⟨by dsimp only [room_1]; omega, by dsimp only [room_1]; omega⟩ (fun _ H locs hW => ?_)
    have hW := wd_comm hW
    refine lv_icmp_eq (tgt := 1930) hx hb dL_law_383 (by decide) (fun _ => ?_) (fun z => absurd rfl z)
    refine W.widen (k := cells + 3) (n := slots + 1358) (by dsimp only; omega) (by dsimp only; omega) ?_
    exact kk _ _ d _ _ hRel1 hW
  · refine lv_iconst (v := 1) hx hb dL_law_343 (by decide) ?_
    refine lv_goto (tgt := 348) hx hb dL_law_344 (by decide) ?_
    obtain ⟨r, Mc1, Mm1, h1, h2, hRel1⟩ := hsim Mc Mm (xs (nI i + 1).toNatClampNeg) (xs (nI i + 2).toNatClampNeg) (xs (nI i + 3).toNatClampNeg) true hRel
    refine cVf_i (ci := 11) (q0 := 0) (rest := []) hF hW mw_L_27 (c_X11_loop l K a d h1) ⟨by decide, by decide⟩ rfl rfl (pC_0 K a d _) rfl hl.1 rfl (Nat.le_of_ble_eq_true rfl) dL_law_348 ⟨by dsimp only [room_1]; omega, by dsimp only [room_1]; omega⟩ (fun _ H locs hW => ?_)
    have hW := wd_comm hW
    refine lv_aload_n hx hb dL_law_351 rfl (lv_at hl 2 rfl) ?_
    refine lv_aload_n hx hb dL_law_352 rfl (lv_at hl 0 rfl) ?_
    refine lv_iload_n hx hb dL_law_353 rfl (lv_at hl 3 rfl) ?_
    refine lv_iconst (v := 1) hx hb dL_law_354 (by decide) ?_
    refine lv_iadd hx hb dL_law_355 ?_
    refine va_sld hx hb hX hbl hbA hW.2.2 (si1 hi hL) dL_law_356 ?_
    refine lv_aload_n hx hb dL_law_357 rfl (lv_at hl 0 rfl) ?_
    refine lv_iload_n hx hb dL_law_358 rfl (lv_at hl 3 rfl) ?_
    refine lv_iconst (v := 2) hx hb dL_law_359 (by decide) ?_
    refine lv_iadd hx hb dL_law_360 ?_
    refine va_sld hx hb hX hbl hbA hW.2.2 (si2 hi hL) dL_law_361 ?_
    refine lv_aload_n hx hb dL_law_362 rfl (lv_at hl 0 rfl) ?_
    refine lv_iload_n hx hb dL_law_363 rfl (lv_at hl 3 rfl) ?_
    refine lv_iconst (v := 3) hx hb dL_law_364 (by decide) ?_
    refine lv_iadd hx hb dL_law_365 ?_
    refine va_sld hx hb hX hbl hbA hW.2.2 (si3 hi hL) dL_law_366 ?_
    refine lv_aload_n hx hb dL_law_367 rfl (lv_at hl 0 rfl) ?_
    refine lv_iload_n hx hb dL_law_368 rfl (lv_at hl 3 rfl) ?_
    refine lv_iconst (v := 4) hx hb dL_law_369 (by decide) ?_
    refine lv_iadd hx hb dL_law_370 ?_
    refine va_sld hx hb hX hbl hbA hW.2.2 (si4 hi hL) dL_law_371 ?_
    refine lv_if_eq (tgt := 379) hx hb dL_law_372 (by decide) (fun z => absurd z q0) (fun _ => ?_)
    refine lv_iconst (v := 1) hx hb dL_law_375 (by decide) ?_
    refine lv_goto (tgt := 380) hx hb dL_law_376 (by decide) ?_
    refine cVf_i (ci := 12) (q0 := 0) (rest := [.int r]) hF hW mw_L_31 (c_X12_loop l K a2 h2) ⟨by decide, by decide⟩ rfl rfl (pM_0 K a2 _) rfl hl.1 rfl (Nat.le_of_ble_eq_true rfl) dL_law_380 ⟨by dsimp only [room_1]; omega, by dsimp only [room_1]; omega⟩ (fun _ H locs hW => ?_)
    have hW := wd_comm hW
    refine lv_icmp_eq (tgt := 1930) hx hb dL_law_383 (by decide) (fun _ => ?_) (fun z => absurd rfl z)
    refine W.widen (k := cells + 3) (n := slots + 1358) (by dsimp only; omega) (by dsimp only; omega) ?_
    exact kk _ _ d _ _ hRel1 hW
set_option maxRecDepth 100000 in
set_option maxHeartbeats 1000000 in
theorem lc_4 (hF : Fx p s m args c code 4 RL K A) (hX : va_X b L xs s s.heap) (hbl : b < s.heap.size) (hbA : ¬ A b) (hi : i + 6 ≤ L) (hL : L ≤ 3072) (hsim : Sim_test Rel) (hRel : Rel Mc Mm) (hW : Wd K A s (wC K a d Mc ++ wM K a2 Mm) H locs) (hl : lv_has ls 4 [(0, .ref b), (1, .ref (a 0)), (2, .ref (a2 0)), (3, .int (nI i))]) (hce : cells + 3 ≤ 600000) (hsl : slots + 1358 ≤ 7302250)
    (kk : ∀ (Mc1 Mm1 : Mem) (d : Nat → Nat) (H : Heap) (locs : List Loc), Rel Mc1 Mm1 → Wd K A s (wC K a d Mc1 ++ wM K a2 Mm1) H locs → W p l e room_1 s m args below meth c H locs (cells + 3) (slots + 1358) Q (F0 m 1930 ls [])) : W p l e room_1 s m args below meth c H locs cells slots Q (F0 m 388 ls []) := by
  have hx := hF.1
  have hb := hF.2.1
  refine lv_aload_n hx hb dL_law_388 rfl (lv_at hl 1 rfl) ?_
  refine lv_aload_n hx hb dL_law_389 rfl (lv_at hl 0 rfl) ?_
  refine lv_iload_n hx hb dL_law_390 rfl (lv_at hl 3 rfl) ?_
  refine lv_iconst (v := 1) hx hb dL_law_391 (by decide) ?_
  refine lv_iadd hx hb dL_law_392 ?_
  refine va_sld hx hb hX hbl hbA hW.2.2 (si1 hi hL) dL_law_393 ?_
  refine lv_aload_n hx hb dL_law_394 rfl (lv_at hl 0 rfl) ?_
  refine lv_iload_n hx hb dL_law_395 rfl (lv_at hl 3 rfl) ?_
  refine lv_iconst (v := 2) hx hb dL_law_396 (by decide) ?_
  refine lv_iadd hx hb dL_law_397 ?_
  refine va_sld hx hb hX hbl hbA hW.2.2 (si2 hi hL) dL_law_398 ?_
  refine lv_aload_n hx hb dL_law_399 rfl (lv_at hl 0 rfl) ?_
  refine lv_iload_n hx hb dL_law_400 rfl (lv_at hl 3 rfl) ?_
  refine lv_iconst (v := 3) hx hb dL_law_401 (by decide) ?_
  refine lv_iadd hx hb dL_law_402 ?_
  refine va_sld hx hb hX hbl hbA hW.2.2 (si3 hi hL) dL_law_403 ?_
  obtain ⟨r, Mc1, Mm1, h1, h2, hRel1⟩ := hsim Mc Mm (xs (nI i + 1).toNatClampNeg) (xs (nI i + 2).toNatClampNeg) (xs (nI i + 3).toNatClampNeg) hRel
  refine cVf_i (ci := 11) (q0 := 0) (rest := []) hF hW mw_L_32 (c_X11_test l K a d h1) ⟨by decide, by decide⟩ rfl rfl (pC_0 K a d _) rfl hl.1 rfl (Nat.le_of_ble_eq_true rfl) dL_law_404 ⟨by dsimp only [room_1]; omega, by dsimp only [room_1]; omega⟩ (fun _ H locs hW => ?_)
  have hW := wd_comm hW
  refine lv_aload_n hx hb dL_law_407 rfl (lv_at hl 2 rfl) ?_
  refine lv_aload_n hx hb dL_law_408 rfl (lv_at hl 0 rfl) ?_
  refine lv_iload_n hx hb dL_law_409 rfl (lv_at hl 3 rfl) ?_
  refine lv_iconst (v := 1) hx hb dL_law_410 (by decide) ?_
  refine lv_iadd hx hb dL_law_411 ?_
  refine va_sld hx hb hX hbl hbA hW.2.2 (si1 hi hL) dL_law_412 ?_
  refine lv_aload_n hx hb dL_law_413 rfl (lv_at hl 0 rfl) ?_
  refine lv_iload_n hx hb dL_law_414 rfl (lv_at hl 3 rfl) ?_
  refine lv_iconst (v := 2) hx hb dL_law_415 (by decide) ?_
  refine lv_iadd hx hb dL_law_416 ?_
  refine va_sld hx hb hX hbl hbA hW.2.2 (si2 hi hL) dL_law_417 ?_
  refine lv_aload_n hx hb dL_law_418 rfl (lv_at hl 0 rfl) ?_
  refine lv_iload_n hx hb dL_law_419 rfl (lv_at hl 3 rfl) ?_
  refine lv_iconst (v := 3) hx hb dL_law_420 (by decide) ?_
  refine lv_iadd hx hb dL_law_421 ?_
  refine va_sld hx hb hX hbl hbA hW.2.2 (si3 hi hL) dL_law_422 ?_
  refine cVf_i (ci := 12) (q0 := 0) (rest := [.int r]) hF hW mw_L_36 (c_X12_test l K a2 h2) ⟨by decide, by decide⟩ rfl rfl (pM_0 K a2 _) rfl hl.1 rfl (Nat.le_of_ble_eq_true rfl) dL_law_423 ⟨by dsimp only [room_1]; omega, by dsimp only [room_1]; omega⟩ (fun _ H locs hW => ?_)
  have hW := wd_comm hW
  refine lv_icmp_eq (tgt := 1930) hx hb dL_law_426 (by decide) (fun _ => ?_) (fun z => absurd rfl z)
  refine W.widen (k := cells + 3) (n := slots + 1358) (by dsimp only; omega) (by dsimp only; omega) ?_
  exact kk _ _ d _ _ hRel1 hW
set_option maxRecDepth 100000 in
set_option maxHeartbeats 1000000 in
theorem lc_5 (hF : Fx p s m args c code 4 RL K A) (hX : va_X b L xs s s.heap) (hbl : b < s.heap.size) (hbA : ¬ A b) (hi : i + 6 ≤ L) (hL : L ≤ 3072) (hsim : Sim_act Rel) (hRel : Rel Mc Mm) (hW : Wd K A s (wC K a d Mc ++ wM K a2 Mm) H locs) (hl : lv_has ls 4 [(0, .ref b), (1, .ref (a 0)), (2, .ref (a2 0)), (3, .int (nI i))]) (hce : cells + 3 ≤ 600000) (hsl : slots + 1358 ≤ 7302250)
    (kk : ∀ (Mc1 Mm1 : Mem) (d : Nat → Nat) (H : Heap) (locs : List Loc), Rel Mc1 Mm1 → Wd K A s (wC K a d Mc1 ++ wM K a2 Mm1) H locs → W p l e room_1 s m args below meth c H locs (cells + 3) (slots + 1358) Q (F0 m 1930 ls [])) : W p l e room_1 s m args below meth c H locs cells slots Q (F0 m 431 ls []) := by
  have hx := hF.1
  have hb := hF.2.1
  refine lv_aload_n hx hb dL_law_431 rfl (lv_at hl 1 rfl) ?_
  refine lv_aload_n hx hb dL_law_432 rfl (lv_at hl 0 rfl) ?_
  refine lv_iload_n hx hb dL_law_433 rfl (lv_at hl 3 rfl) ?_
  refine lv_iconst (v := 1) hx hb dL_law_434 (by decide) ?_
  refine lv_iadd hx hb dL_law_435 ?_
  refine va_sld hx hb hX hbl hbA hW.2.2 (si1 hi hL) dL_law_436 ?_
  refine lv_aload_n hx hb dL_law_437 rfl (lv_at hl 0 rfl) ?_
  refine lv_iload_n hx hb dL_law_438 rfl (lv_at hl 3 rfl) ?_
  refine lv_iconst (v := 2) hx hb dL_law_439 (by decide) ?_
  refine lv_iadd hx hb dL_law_440 ?_
  refine va_sld hx hb hX hbl hbA hW.2.2 (si2 hi hL) dL_law_441 ?_
  refine lv_aload_n hx hb dL_law_442 rfl (lv_at hl 0 rfl) ?_
  refine lv_iload_n hx hb dL_law_443 rfl (lv_at hl 3 rfl) ?_
  refine lv_iconst (v := 3) hx hb dL_law_444 (by decide) ?_
  refine lv_iadd hx hb dL_law_445 ?_
  refine va_sld hx hb hX hbl hbA hW.2.2 (si3 hi hL) dL_law_446 ?_
  obtain ⟨r, Mc1, Mm1, h1, h2, hRel1⟩ := hsim Mc Mm (xs (nI i + 1).toNatClampNeg) (xs (nI i + 2).toNatClampNeg) (xs (nI i + 3).toNatClampNeg) hRel
  refine cVf_i (ci := 11) (q0 := 0) (rest := []) hF hW mw_L_37 (c_X11_act l K a d h1) ⟨by decide, by decide⟩ rfl rfl (pC_0 K a d _) rfl hl.1 rfl (Nat.le_of_ble_eq_true rfl) dL_law_447 ⟨by dsimp only [room_1]; omega, by dsimp only [room_1]; omega⟩ (fun _ H locs hW => ?_)
  have hW := wd_comm hW
  refine lv_aload_n hx hb dL_law_450 rfl (lv_at hl 2 rfl) ?_
  refine lv_aload_n hx hb dL_law_451 rfl (lv_at hl 0 rfl) ?_
  refine lv_iload_n hx hb dL_law_452 rfl (lv_at hl 3 rfl) ?_
  refine lv_iconst (v := 1) hx hb dL_law_453 (by decide) ?_
  refine lv_iadd hx hb dL_law_454 ?_
  refine va_sld hx hb hX hbl hbA hW.2.2 (si1 hi hL) dL_law_455 ?_
  refine lv_aload_n hx hb dL_law_456 rfl (lv_at hl 0 rfl) ?_
  refine lv_iload_n hx hb dL_law_457 rfl (lv_at hl 3 rfl) ?_
  refine lv_iconst (v := 2) hx hb dL_law_458 (by decide) ?_
  refine lv_iadd hx hb dL_law_459 ?_
  refine va_sld hx hb hX hbl hbA hW.2.2 (si2 hi hL) dL_law_460 ?_
  refine lv_aload_n hx hb dL_law_461 rfl (lv_at hl 0 rfl) ?_
  refine lv_iload_n hx hb dL_law_462 rfl (lv_at hl 3 rfl) ?_
  refine lv_iconst (v := 3) hx hb dL_law_463 (by decide) ?_
  refine lv_iadd hx hb dL_law_464 ?_
  refine va_sld hx hb hX hbl hbA hW.2.2 (si3 hi hL) dL_law_465 ?_
  refine cVf_i (ci := 12) (q0 := 0) (rest := [.int r]) hF hW mw_L_40 (c_X12_act l K a2 h2) ⟨by decide, by decide⟩ rfl rfl (pM_0 K a2 _) rfl hl.1 rfl (Nat.le_of_ble_eq_true rfl) dL_law_466 ⟨by dsimp only [room_1]; omega, by dsimp only [room_1]; omega⟩ (fun _ H locs hW => ?_)
  have hW := wd_comm hW
  refine lv_icmp_eq (tgt := 1930) hx hb dL_law_469 (by decide) (fun _ => ?_) (fun z => absurd rfl z)
  refine W.widen (k := cells + 3) (n := slots + 1358) (by dsimp only; omega) (by dsimp only; omega) ?_
  exact kk _ _ d _ _ hRel1 hW
set_option maxRecDepth 100000 in
set_option maxHeartbeats 1000000 in
theorem lc_6 (hF : Fx p s m args c code 4 RL K A) (hX : va_X b L xs s s.heap) (hbl : b < s.heap.size) (hbA : ¬ A b) (hi : i + 6 ≤ L) (hL : L ≤ 3072) (hsim : Sim_aim Rel) (hRel : Rel Mc Mm) (hW : Wd K A s (wC K a d Mc ++ wM K a2 Mm) H locs) (hl : lv_has ls 4 [(0, .ref b), (1, .ref (a 0)), (2, .ref (a2 0)), (3, .int (nI i))]) (hce : cells + 3 ≤ 600000) (hsl : slots + 1358 ≤ 7302250)
    (kk : ∀ (Mc1 Mm1 : Mem) (d : Nat → Nat) (H : Heap) (locs : List Loc), Rel Mc1 Mm1 → Wd K A s (wC K a d Mc1 ++ wM K a2 Mm1) H locs → W p l e room_1 s m args below meth c H locs (cells + 3) (slots + 1358) Q (F0 m 1930 ls [])) : W p l e room_1 s m args below meth c H locs cells slots Q (F0 m 474 ls []) := by
  have hx := hF.1
  have hb := hF.2.1
  refine lv_aload_n hx hb dL_law_474 rfl (lv_at hl 1 rfl) ?_
  refine lv_aload_n hx hb dL_law_475 rfl (lv_at hl 0 rfl) ?_
  refine lv_iload_n hx hb dL_law_476 rfl (lv_at hl 3 rfl) ?_
  refine lv_iconst (v := 1) hx hb dL_law_477 (by decide) ?_
  refine lv_iadd hx hb dL_law_478 ?_
  refine va_sld hx hb hX hbl hbA hW.2.2 (si1 hi hL) dL_law_479 ?_
  refine lv_aload_n hx hb dL_law_480 rfl (lv_at hl 0 rfl) ?_
  refine lv_iload_n hx hb dL_law_481 rfl (lv_at hl 3 rfl) ?_
  refine lv_iconst (v := 2) hx hb dL_law_482 (by decide) ?_
  refine lv_iadd hx hb dL_law_483 ?_
  refine va_sld hx hb hX hbl hbA hW.2.2 (si2 hi hL) dL_law_484 ?_
  refine lv_aload_n hx hb dL_law_485 rfl (lv_at hl 0 rfl) ?_
  refine lv_iload_n hx hb dL_law_486 rfl (lv_at hl 3 rfl) ?_
  refine lv_iconst (v := 3) hx hb dL_law_487 (by decide) ?_
  refine lv_iadd hx hb dL_law_488 ?_
  refine va_sld hx hb hX hbl hbA hW.2.2 (si3 hi hL) dL_law_489 ?_
  refine lv_aload_n hx hb dL_law_490 rfl (lv_at hl 0 rfl) ?_
  refine lv_iload_n hx hb dL_law_491 rfl (lv_at hl 3 rfl) ?_
  refine lv_iconst (v := 4) hx hb dL_law_492 (by decide) ?_
  refine lv_iadd hx hb dL_law_493 ?_
  refine va_sld hx hb hX hbl hbA hW.2.2 (si4 hi hL) dL_law_494 ?_
  refine lv_aload_n hx hb dL_law_495 rfl (lv_at hl 0 rfl) ?_
  refine lv_iload_n hx hb dL_law_496 rfl (lv_at hl 3 rfl) ?_
  refine lv_iconst (v := 5) hx hb dL_law_497 (by decide) ?_
  refine lv_iadd hx hb dL_law_498 ?_
  refine va_sld hx hb hX hbl hbA hW.2.2 (si5 hi hL) dL_law_499 ?_
  obtain ⟨r, Mc1, Mm1, h1, h2, hRel1⟩ := hsim Mc Mm (xs (nI i + 1).toNatClampNeg) (xs (nI i + 2).toNatClampNeg) (xs (nI i + 3).toNatClampNeg) (xs (nI i + 4).toNatClampNeg) (xs (nI i + 5).toNatClampNeg) hRel
  refine cVf_i (ci := 11) (q0 := 0) (rest := []) hF hW mw_L_41 (c_X11_aim l K a d h1) ⟨by decide, by decide⟩ rfl rfl (pC_0 K a d _) rfl hl.1 rfl (Nat.le_of_ble_eq_true rfl) dL_law_500 ⟨by dsimp only [room_1]; omega, by dsimp only [room_1]; omega⟩ (fun _ H locs hW => ?_)
  have hW := wd_comm hW
  refine lv_aload_n hx hb dL_law_503 rfl (lv_at hl 2 rfl) ?_
  refine lv_aload_n hx hb dL_law_504 rfl (lv_at hl 0 rfl) ?_
  refine lv_iload_n hx hb dL_law_505 rfl (lv_at hl 3 rfl) ?_
  refine lv_iconst (v := 1) hx hb dL_law_506 (by decide) ?_
  refine lv_iadd hx hb dL_law_507 ?_
  refine va_sld hx hb hX hbl hbA hW.2.2 (si1 hi hL) dL_law_508 ?_
  refine lv_aload_n hx hb dL_law_509 rfl (lv_at hl 0 rfl) ?_
  refine lv_iload_n hx hb dL_law_510 rfl (lv_at hl 3 rfl) ?_
  refine lv_iconst (v := 2) hx hb dL_law_511 (by decide) ?_
  refine lv_iadd hx hb dL_law_512 ?_
  refine va_sld hx hb hX hbl hbA hW.2.2 (si2 hi hL) dL_law_513 ?_
  refine lv_aload_n hx hb dL_law_514 rfl (lv_at hl 0 rfl) ?_
  refine lv_iload_n hx hb dL_law_515 rfl (lv_at hl 3 rfl) ?_
  refine lv_iconst (v := 3) hx hb dL_law_516 (by decide) ?_
  refine lv_iadd hx hb dL_law_517 ?_
  refine va_sld hx hb hX hbl hbA hW.2.2 (si3 hi hL) dL_law_518 ?_
  refine lv_aload_n hx hb dL_law_519 rfl (lv_at hl 0 rfl) ?_
  refine lv_iload_n hx hb dL_law_520 rfl (lv_at hl 3 rfl) ?_
  refine lv_iconst (v := 4) hx hb dL_law_521 (by decide) ?_
  refine lv_iadd hx hb dL_law_522 ?_
  refine va_sld hx hb hX hbl hbA hW.2.2 (si4 hi hL) dL_law_523 ?_
  refine lv_aload_n hx hb dL_law_524 rfl (lv_at hl 0 rfl) ?_
  refine lv_iload_n hx hb dL_law_525 rfl (lv_at hl 3 rfl) ?_
  refine lv_iconst (v := 5) hx hb dL_law_526 (by decide) ?_
  refine lv_iadd hx hb dL_law_527 ?_
  refine va_sld hx hb hX hbl hbA hW.2.2 (si5 hi hL) dL_law_528 ?_
  refine cVf_i (ci := 12) (q0 := 0) (rest := [.int r]) hF hW mw_L_45 (c_X12_aim l K a2 h2) ⟨by decide, by decide⟩ rfl rfl (pM_0 K a2 _) rfl hl.1 rfl (Nat.le_of_ble_eq_true rfl) dL_law_529 ⟨by dsimp only [room_1]; omega, by dsimp only [room_1]; omega⟩ (fun _ H locs hW => ?_)
  have hW := wd_comm hW
  refine lv_icmp_eq (tgt := 1930) hx hb dL_law_532 (by decide) (fun _ => ?_) (fun z => absurd rfl z)
  refine W.widen (k := cells + 3) (n := slots + 1358) (by dsimp only; omega) (by dsimp only; omega) ?_
  exact kk _ _ d _ _ hRel1 hW
set_option maxRecDepth 100000 in
set_option maxHeartbeats 1000000 in
theorem lc_7 (hF : Fx p s m args c code 4 RL K A) (hX : va_X b L xs s s.heap) (hbl : b < s.heap.size) (hbA : ¬ A b) (hi : i + 6 ≤ L) (hL : L ≤ 3072) (hsim : Sim_node Rel) (hRel : Rel Mc Mm) (hW : Wd K A s (wC K a d Mc ++ wM K a2 Mm) H locs) (hl : lv_has ls 4 [(0, .ref b), (1, .ref (a 0)), (2, .ref (a2 0)), (3, .int (nI i))]) (hce : cells + 3 ≤ 600000) (hsl : slots + 1358 ≤ 7302250)
    (kk : ∀ (Mc1 Mm1 : Mem) (d : Nat → Nat) (H : Heap) (locs : List Loc), Rel Mc1 Mm1 → Wd K A s (wC K a d Mc1 ++ wM K a2 Mm1) H locs → W p l e room_1 s m args below meth c H locs (cells + 3) (slots + 1358) Q (F0 m 1930 ls [])) : W p l e room_1 s m args below meth c H locs cells slots Q (F0 m 537 ls []) := by
  have hx := hF.1
  have hb := hF.2.1
  refine lv_aload_n hx hb dL_law_537 rfl (lv_at hl 1 rfl) ?_
  refine lv_aload_n hx hb dL_law_538 rfl (lv_at hl 0 rfl) ?_
  refine lv_iload_n hx hb dL_law_539 rfl (lv_at hl 3 rfl) ?_
  refine lv_iconst (v := 1) hx hb dL_law_540 (by decide) ?_
  refine lv_iadd hx hb dL_law_541 ?_
  refine va_sld hx hb hX hbl hbA hW.2.2 (si1 hi hL) dL_law_542 ?_
  refine lv_aload_n hx hb dL_law_543 rfl (lv_at hl 0 rfl) ?_
  refine lv_iload_n hx hb dL_law_544 rfl (lv_at hl 3 rfl) ?_
  refine lv_iconst (v := 2) hx hb dL_law_545 (by decide) ?_
  refine lv_iadd hx hb dL_law_546 ?_
  refine va_sld hx hb hX hbl hbA hW.2.2 (si2 hi hL) dL_law_547 ?_
  obtain ⟨r, Mc1, Mm1, h1, h2, hRel1⟩ := hsim Mc Mm (xs (nI i + 1).toNatClampNeg) (xs (nI i + 2).toNatClampNeg) hRel
  obtain ⟨h1, rfl⟩ := h1
  obtain ⟨h2, rfl⟩ := h2
  refine cVf_i (ci := 11) (q0 := 0) (rest := []) hF hW mw_L_46 (c_X11_node l K a d h1) ⟨by decide, by decide⟩ rfl rfl (pC_0 K a d _) rfl hl.1 rfl (Nat.le_of_ble_eq_true rfl) dL_law_548 ⟨by dsimp only [room_1]; omega, by dsimp only [room_1]; omega⟩ (fun _ H locs hW => ?_)
  have hW := wd_comm hW
  refine lv_aload_n hx hb dL_law_551 rfl (lv_at hl 2 rfl) ?_
  refine lv_aload_n hx hb dL_law_552 rfl (lv_at hl 0 rfl) ?_
  refine lv_iload_n hx hb dL_law_553 rfl (lv_at hl 3 rfl) ?_
  refine lv_iconst (v := 1) hx hb dL_law_554 (by decide) ?_
  refine lv_iadd hx hb dL_law_555 ?_
  refine va_sld hx hb hX hbl hbA hW.2.2 (si1 hi hL) dL_law_556 ?_
  refine lv_aload_n hx hb dL_law_557 rfl (lv_at hl 0 rfl) ?_
  refine lv_iload_n hx hb dL_law_558 rfl (lv_at hl 3 rfl) ?_
  refine lv_iconst (v := 2) hx hb dL_law_559 (by decide) ?_
  refine lv_iadd hx hb dL_law_560 ?_
  refine va_sld hx hb hX hbl hbA hW.2.2 (si2 hi hL) dL_law_561 ?_
  refine cVf_i (ci := 12) (q0 := 0) (rest := [.int r]) hF hW mw_L_49 (c_X12_node l K a2 h2) ⟨by decide, by decide⟩ rfl rfl (pM_0 K a2 _) rfl hl.1 rfl (Nat.le_of_ble_eq_true rfl) dL_law_562 ⟨by dsimp only [room_1]; omega, by dsimp only [room_1]; omega⟩ (fun _ H locs hW => ?_)
  have hW := wd_comm hW
  refine lv_icmp_eq (tgt := 1930) hx hb dL_law_565 (by decide) (fun _ => ?_) (fun z => absurd rfl z)
  refine W.widen (k := cells + 3) (n := slots + 1358) (by dsimp only; omega) (by dsimp only; omega) ?_
  exact kk _ _ d _ _ hRel1 hW
set_option maxRecDepth 100000 in
set_option maxHeartbeats 1000000 in
theorem lc_8 (hF : Fx p s m args c code 4 RL K A) (hX : va_X b L xs s s.heap) (hbl : b < s.heap.size) (hbA : ¬ A b) (hi : i + 6 ≤ L) (hL : L ≤ 3072) (hsim : Sim_hold Rel) (hRel : Rel Mc Mm) (hW : Wd K A s (wC K a d Mc ++ wM K a2 Mm) H locs) (hl : lv_has ls 4 [(0, .ref b), (1, .ref (a 0)), (2, .ref (a2 0)), (3, .int (nI i))]) (hce : cells + 3 ≤ 600000) (hsl : slots + 1358 ≤ 7302250)
    (kk : ∀ (Mc1 Mm1 : Mem) (d : Nat → Nat) (H : Heap) (locs : List Loc), Rel Mc1 Mm1 → Wd K A s (wC K a d Mc1 ++ wM K a2 Mm1) H locs → W p l e room_1 s m args below meth c H locs (cells + 3) (slots + 1358) Q (F0 m 1930 ls [])) : W p l e room_1 s m args below meth c H locs cells slots Q (F0 m 570 ls []) := by
  have hx := hF.1
  have hb := hF.2.1
  refine lv_aload_n hx hb dL_law_570 rfl (lv_at hl 1 rfl) ?_
  refine lv_aload_n hx hb dL_law_571 rfl (lv_at hl 0 rfl) ?_
  refine lv_iload_n hx hb dL_law_572 rfl (lv_at hl 3 rfl) ?_
  refine lv_iconst (v := 1) hx hb dL_law_573 (by decide) ?_
  refine lv_iadd hx hb dL_law_574 ?_
  refine va_sld hx hb hX hbl hbA hW.2.2 (si1 hi hL) dL_law_575 ?_
  refine lv_aload_n hx hb dL_law_576 rfl (lv_at hl 0 rfl) ?_
  refine lv_iload_n hx hb dL_law_577 rfl (lv_at hl 3 rfl) ?_
  refine lv_iconst (v := 2) hx hb dL_law_578 (by decide) ?_
  refine lv_iadd hx hb dL_law_579 ?_
  refine va_sld hx hb hX hbl hbA hW.2.2 (si2 hi hL) dL_law_580 ?_
  obtain ⟨r, Mc1, Mm1, h1, h2, hRel1⟩ := hsim Mc Mm (xs (nI i + 1).toNatClampNeg) (xs (nI i + 2).toNatClampNeg) hRel
  refine cVf_i (ci := 11) (q0 := 0) (rest := []) hF hW mw_L_50 (c_X11_hold l K a d h1) ⟨by decide, by decide⟩ rfl rfl (pC_0 K a d _) rfl hl.1 rfl (Nat.le_of_ble_eq_true rfl) dL_law_581 ⟨by dsimp only [room_1]; omega, by dsimp only [room_1]; omega⟩ (fun _ H locs hW => ?_)
  have hW := wd_comm hW
  refine lv_aload_n hx hb dL_law_584 rfl (lv_at hl 2 rfl) ?_
  refine lv_aload_n hx hb dL_law_585 rfl (lv_at hl 0 rfl) ?_
  refine lv_iload_n hx hb dL_law_586 rfl (lv_at hl 3 rfl) ?_
  refine lv_iconst (v := 1) hx hb dL_law_587 (by decide) ?_
  refine lv_iadd hx hb dL_law_588 ?_
  refine va_sld hx hb hX hbl hbA hW.2.2 (si1 hi hL) dL_law_589 ?_
  refine lv_aload_n hx hb dL_law_590 rfl (lv_at hl 0 rfl) ?_
  refine lv_iload_n hx hb dL_law_591 rfl (lv_at hl 3 rfl) ?_
  refine lv_iconst (v := 2) hx hb dL_law_592 (by decide) ?_
  refine lv_iadd hx hb dL_law_593 ?_
  refine va_sld hx hb hX hbl hbA hW.2.2 (si2 hi hL) dL_law_594 ?_
  refine cVf_i (ci := 12) (q0 := 0) (rest := [.int r]) hF hW mw_L_53 (c_X12_hold l K a2 h2) ⟨by decide, by decide⟩ rfl rfl (pM_0 K a2 _) rfl hl.1 rfl (Nat.le_of_ble_eq_true rfl) dL_law_595 ⟨by dsimp only [room_1]; omega, by dsimp only [room_1]; omega⟩ (fun _ H locs hW => ?_)
  have hW := wd_comm hW
  refine lv_icmp_eq (tgt := 1930) hx hb dL_law_598 (by decide) (fun _ => ?_) (fun z => absurd rfl z)
  refine W.widen (k := cells + 3) (n := slots + 1358) (by dsimp only; omega) (by dsimp only; omega) ?_
  exact kk _ _ d _ _ hRel1 hW
set_option maxRecDepth 100000 in
set_option maxHeartbeats 1000000 in
theorem lc_9 (hF : Fx p s m args c code 4 RL K A) (hX : va_X b L xs s s.heap) (hbl : b < s.heap.size) (hbA : ¬ A b) (hi : i + 6 ≤ L) (hL : L ≤ 3072) (hsim : Sim_note Rel) (hRel : Rel Mc Mm) (hW : Wd K A s (wC K a d Mc ++ wM K a2 Mm) H locs) (hl : lv_has ls 4 [(0, .ref b), (1, .ref (a 0)), (2, .ref (a2 0)), (3, .int (nI i))]) (hce : cells + 3 ≤ 600000) (hsl : slots + 1358 ≤ 7302250)
    (kk : ∀ (Mc1 Mm1 : Mem) (d : Nat → Nat) (H : Heap) (locs : List Loc), Rel Mc1 Mm1 → Wd K A s (wC K a d Mc1 ++ wM K a2 Mm1) H locs → W p l e room_1 s m args below meth c H locs (cells + 3) (slots + 1358) Q (F0 m 1930 ls [])) : W p l e room_1 s m args below meth c H locs cells slots Q (F0 m 603 ls []) := by
  have hx := hF.1
  have hb := hF.2.1
  refine lv_aload_n hx hb dL_law_603 rfl (lv_at hl 1 rfl) ?_
  refine lv_aload_n hx hb dL_law_604 rfl (lv_at hl 0 rfl) ?_
  refine lv_iload_n hx hb dL_law_605 rfl (lv_at hl 3 rfl) ?_
  refine lv_iconst (v := 1) hx hb dL_law_606 (by decide) ?_
  refine lv_iadd hx hb dL_law_607 ?_
  refine va_sld hx hb hX hbl hbA hW.2.2 (si1 hi hL) dL_law_608 ?_
  refine lv_aload_n hx hb dL_law_609 rfl (lv_at hl 0 rfl) ?_
  refine lv_iload_n hx hb dL_law_610 rfl (lv_at hl 3 rfl) ?_
  refine lv_iconst (v := 2) hx hb dL_law_611 (by decide) ?_
  refine lv_iadd hx hb dL_law_612 ?_
  refine va_sld hx hb hX hbl hbA hW.2.2 (si2 hi hL) dL_law_613 ?_
  obtain ⟨r, Mc1, Mm1, h1, h2, hRel1⟩ := hsim Mc Mm (xs (nI i + 1).toNatClampNeg) (xs (nI i + 2).toNatClampNeg) hRel
  refine cVf_i (ci := 11) (q0 := 0) (rest := []) hF hW mw_L_54 (c_X11_note l K a d h1) ⟨by decide, by decide⟩ rfl rfl (pC_0 K a d _) rfl hl.1 rfl (Nat.le_of_ble_eq_true rfl) dL_law_614 ⟨by dsimp only [room_1]; omega, by dsimp only [room_1]; omega⟩ (fun _ H locs hW => ?_)
  have hW := wd_comm hW
  refine lv_aload_n hx hb dL_law_617 rfl (lv_at hl 2 rfl) ?_
  refine lv_aload_n hx hb dL_law_618 rfl (lv_at hl 0 rfl) ?_
  refine lv_iload_n hx hb dL_law_619 rfl (lv_at hl 3 rfl) ?_
  refine lv_iconst (v := 1) hx hb dL_law_620 (by decide) ?_
  refine lv_iadd hx hb dL_law_621 ?_
  refine va_sld hx hb hX hbl hbA hW.2.2 (si1 hi hL) dL_law_622 ?_
  refine lv_aload_n hx hb dL_law_623 rfl (lv_at hl 0 rfl) ?_
  refine lv_iload_n hx hb dL_law_624 rfl (lv_at hl 3 rfl) ?_
  refine lv_iconst (v := 2) hx hb dL_law_625 (by decide) ?_
  refine lv_iadd hx hb dL_law_626 ?_
  refine va_sld hx hb hX hbl hbA hW.2.2 (si2 hi hL) dL_law_627 ?_
  refine cVf_i (ci := 12) (q0 := 0) (rest := [.int r]) hF hW mw_L_57 (c_X12_note l K a2 h2) ⟨by decide, by decide⟩ rfl rfl (pM_0 K a2 _) rfl hl.1 rfl (Nat.le_of_ble_eq_true rfl) dL_law_628 ⟨by dsimp only [room_1]; omega, by dsimp only [room_1]; omega⟩ (fun _ H locs hW => ?_)
  have hW := wd_comm hW
  refine lv_icmp_eq (tgt := 1930) hx hb dL_law_631 (by decide) (fun _ => ?_) (fun z => absurd rfl z)
  refine W.widen (k := cells + 3) (n := slots + 1358) (by dsimp only; omega) (by dsimp only; omega) ?_
  exact kk _ _ d _ _ hRel1 hW
set_option maxRecDepth 100000 in
set_option maxHeartbeats 1000000 in
theorem lc_10 (hF : Fx p s m args c code 4 RL K A) (hX : va_X b L xs s s.heap) (hbl : b < s.heap.size) (hbA : ¬ A b) (hi : i + 6 ≤ L) (hL : L ≤ 3072) (hsim : Sim_held Rel) (hRel : Rel Mc Mm) (hW : Wd K A s (wC K a d Mc ++ wM K a2 Mm) H locs) (hl : lv_has ls 4 [(0, .ref b), (1, .ref (a 0)), (2, .ref (a2 0)), (3, .int (nI i))]) (hce : cells + 3 ≤ 600000) (hsl : slots + 1358 ≤ 7302250)
    (kk : ∀ (Mc1 Mm1 : Mem) (d : Nat → Nat) (H : Heap) (locs : List Loc), Rel Mc1 Mm1 → Wd K A s (wC K a d Mc1 ++ wM K a2 Mm1) H locs → W p l e room_1 s m args below meth c H locs (cells + 3) (slots + 1358) Q (F0 m 1930 ls [])) : W p l e room_1 s m args below meth c H locs cells slots Q (F0 m 636 ls []) := by
  have hx := hF.1
  have hb := hF.2.1
  refine lv_aload_n hx hb dL_law_636 rfl (lv_at hl 1 rfl) ?_
  refine lv_aload_n hx hb dL_law_637 rfl (lv_at hl 0 rfl) ?_
  refine lv_iload_n hx hb dL_law_638 rfl (lv_at hl 3 rfl) ?_
  refine lv_iconst (v := 1) hx hb dL_law_639 (by decide) ?_
  refine lv_iadd hx hb dL_law_640 ?_
  refine va_sld hx hb hX hbl hbA hW.2.2 (si1 hi hL) dL_law_641 ?_
  refine lv_aload_n hx hb dL_law_642 rfl (lv_at hl 0 rfl) ?_
  refine lv_iload_n hx hb dL_law_643 rfl (lv_at hl 3 rfl) ?_
  refine lv_iconst (v := 2) hx hb dL_law_644 (by decide) ?_
  refine lv_iadd hx hb dL_law_645 ?_
  refine va_sld hx hb hX hbl hbA hW.2.2 (si2 hi hL) dL_law_646 ?_
  obtain ⟨r, Mc1, Mm1, h1, h2, hRel1⟩ := hsim Mc Mm (xs (nI i + 1).toNatClampNeg) (xs (nI i + 2).toNatClampNeg) hRel
  refine cVf_i (ci := 11) (q0 := 0) (rest := []) hF hW mw_L_58 (c_X11_held l K a d h1) ⟨by decide, by decide⟩ rfl rfl (pC_0 K a d _) rfl hl.1 rfl (Nat.le_of_ble_eq_true rfl) dL_law_647 ⟨by dsimp only [room_1]; omega, by dsimp only [room_1]; omega⟩ (fun _ H locs hW => ?_)
  have hW := wd_comm hW
  refine lv_aload_n hx hb dL_law_650 rfl (lv_at hl 2 rfl) ?_
  refine lv_aload_n hx hb dL_law_651 rfl (lv_at hl 0 rfl) ?_
  refine lv_iload_n hx hb dL_law_652 rfl (lv_at hl 3 rfl) ?_
  refine lv_iconst (v := 1) hx hb dL_law_653 (by decide) ?_
  refine lv_iadd hx hb dL_law_654 ?_
  refine va_sld hx hb hX hbl hbA hW.2.2 (si1 hi hL) dL_law_655 ?_
  refine lv_aload_n hx hb dL_law_656 rfl (lv_at hl 0 rfl) ?_
  refine lv_iload_n hx hb dL_law_657 rfl (lv_at hl 3 rfl) ?_
  refine lv_iconst (v := 2) hx hb dL_law_658 (by decide) ?_
  refine lv_iadd hx hb dL_law_659 ?_
  refine va_sld hx hb hX hbl hbA hW.2.2 (si2 hi hL) dL_law_660 ?_
  refine cVf_i (ci := 12) (q0 := 0) (rest := [.int r]) hF hW mw_L_61 (c_X12_held l K a2 h2) ⟨by decide, by decide⟩ rfl rfl (pM_0 K a2 _) rfl hl.1 rfl (Nat.le_of_ble_eq_true rfl) dL_law_661 ⟨by dsimp only [room_1]; omega, by dsimp only [room_1]; omega⟩ (fun _ H locs hW => ?_)
  have hW := wd_comm hW
  refine lv_icmp_eq (tgt := 1930) hx hb dL_law_664 (by decide) (fun _ => ?_) (fun z => absurd rfl z)
  refine W.widen (k := cells + 3) (n := slots + 1358) (by dsimp only; omega) (by dsimp only; omega) ?_
  exact kk _ _ d _ _ hRel1 hW
set_option maxRecDepth 100000 in
set_option maxHeartbeats 1000000 in
theorem lc_11 (hF : Fx p s m args c code 4 RL K A) (hX : va_X b L xs s s.heap) (hbl : b < s.heap.size) (hbA : ¬ A b) (hi : i + 6 ≤ L) (hL : L ≤ 3072) (hsim : Sim_noted Rel) (hRel : Rel Mc Mm) (hW : Wd K A s (wC K a d Mc ++ wM K a2 Mm) H locs) (hl : lv_has ls 4 [(0, .ref b), (1, .ref (a 0)), (2, .ref (a2 0)), (3, .int (nI i))]) (hce : cells + 3 ≤ 600000) (hsl : slots + 1358 ≤ 7302250)
    (kk : ∀ (Mc1 Mm1 : Mem) (d : Nat → Nat) (H : Heap) (locs : List Loc), Rel Mc1 Mm1 → Wd K A s (wC K a d Mc1 ++ wM K a2 Mm1) H locs → W p l e room_1 s m args below meth c H locs (cells + 3) (slots + 1358) Q (F0 m 1930 ls [])) : W p l e room_1 s m args below meth c H locs cells slots Q (F0 m 669 ls []) := by
  have hx := hF.1
  have hb := hF.2.1
  refine lv_aload_n hx hb dL_law_669 rfl (lv_at hl 1 rfl) ?_
  refine lv_aload_n hx hb dL_law_670 rfl (lv_at hl 0 rfl) ?_
  refine lv_iload_n hx hb dL_law_671 rfl (lv_at hl 3 rfl) ?_
  refine lv_iconst (v := 1) hx hb dL_law_672 (by decide) ?_
  refine lv_iadd hx hb dL_law_673 ?_
  refine va_sld hx hb hX hbl hbA hW.2.2 (si1 hi hL) dL_law_674 ?_
  refine lv_aload_n hx hb dL_law_675 rfl (lv_at hl 0 rfl) ?_
  refine lv_iload_n hx hb dL_law_676 rfl (lv_at hl 3 rfl) ?_
  refine lv_iconst (v := 2) hx hb dL_law_677 (by decide) ?_
  refine lv_iadd hx hb dL_law_678 ?_
  refine va_sld hx hb hX hbl hbA hW.2.2 (si2 hi hL) dL_law_679 ?_
  refine lv_aload_n hx hb dL_law_680 rfl (lv_at hl 0 rfl) ?_
  refine lv_iload_n hx hb dL_law_681 rfl (lv_at hl 3 rfl) ?_
  refine lv_iconst (v := 3) hx hb dL_law_682 (by decide) ?_
  refine lv_iadd hx hb dL_law_683 ?_
  refine va_sld hx hb hX hbl hbA hW.2.2 (si3 hi hL) dL_law_684 ?_
  obtain ⟨r, Mc1, Mm1, h1, h2, hRel1⟩ := hsim Mc Mm (xs (nI i + 1).toNatClampNeg) (xs (nI i + 2).toNatClampNeg) (xs (nI i + 3).toNatClampNeg) hRel
  refine cVf_i (ci := 11) (q0 := 0) (rest := []) hF hW mw_L_62 (c_X11_noted l K a d h1) ⟨by decide, by decide⟩ rfl rfl (pC_0 K a d _) rfl hl.1 rfl (Nat.le_of_ble_eq_true rfl) dL_law_685 ⟨by dsimp only [room_1]; omega, by dsimp only [room_1]; omega⟩ (fun _ H locs hW => ?_)
  have hW := wd_comm hW
  refine lv_aload_n hx hb dL_law_688 rfl (lv_at hl 2 rfl) ?_
  refine lv_aload_n hx hb dL_law_689 rfl (lv_at hl 0 rfl) ?_
  refine lv_iload_n hx hb dL_law_690 rfl (lv_at hl 3 rfl) ?_
  refine lv_iconst (v := 1) hx hb dL_law_691 (by decide) ?_
  refine lv_iadd hx hb dL_law_692 ?_
  refine va_sld hx hb hX hbl hbA hW.2.2 (si1 hi hL) dL_law_693 ?_
  refine lv_aload_n hx hb dL_law_694 rfl (lv_at hl 0 rfl) ?_
  refine lv_iload_n hx hb dL_law_695 rfl (lv_at hl 3 rfl) ?_
  refine lv_iconst (v := 2) hx hb dL_law_696 (by decide) ?_
  refine lv_iadd hx hb dL_law_697 ?_
  refine va_sld hx hb hX hbl hbA hW.2.2 (si2 hi hL) dL_law_698 ?_
  refine lv_aload_n hx hb dL_law_699 rfl (lv_at hl 0 rfl) ?_
  refine lv_iload_n hx hb dL_law_700 rfl (lv_at hl 3 rfl) ?_
  refine lv_iconst (v := 3) hx hb dL_law_701 (by decide) ?_
  refine lv_iadd hx hb dL_law_702 ?_
  refine va_sld hx hb hX hbl hbA hW.2.2 (si3 hi hL) dL_law_703 ?_
  refine cVf_i (ci := 12) (q0 := 0) (rest := [.int r]) hF hW mw_L_65 (c_X12_noted l K a2 h2) ⟨by decide, by decide⟩ rfl rfl (pM_0 K a2 _) rfl hl.1 rfl (Nat.le_of_ble_eq_true rfl) dL_law_704 ⟨by dsimp only [room_1]; omega, by dsimp only [room_1]; omega⟩ (fun _ H locs hW => ?_)
  have hW := wd_comm hW
  refine lv_icmp_eq (tgt := 1930) hx hb dL_law_707 (by decide) (fun _ => ?_) (fun z => absurd rfl z)
  refine W.widen (k := cells + 3) (n := slots + 1358) (by dsimp only; omega) (by dsimp only; omega) ?_
  exact kk _ _ d _ _ hRel1 hW
set_option maxRecDepth 100000 in
set_option maxHeartbeats 1000000 in
theorem lc_12 (hF : Fx p s m args c code 4 RL K A) (hX : va_X b L xs s s.heap) (hbl : b < s.heap.size) (hbA : ¬ A b) (hi : i + 6 ≤ L) (hL : L ≤ 3072) (hsim : Sim_copy Rel) (hRel : Rel Mc Mm) (hW : Wd K A s (wC K a d Mc ++ wM K a2 Mm) H locs) (hl : lv_has ls 4 [(0, .ref b), (1, .ref (a 0)), (2, .ref (a2 0)), (3, .int (nI i))]) (hce : cells + 3 ≤ 600000) (hsl : slots + 1358 ≤ 7302250)
    (kk : ∀ (Mc1 Mm1 : Mem) (d : Nat → Nat) (H : Heap) (locs : List Loc), Rel Mc1 Mm1 → Wd K A s (wC K a d Mc1 ++ wM K a2 Mm1) H locs → W p l e room_1 s m args below meth c H locs (cells + 3) (slots + 1358) Q (F0 m 1930 ls [])) : W p l e room_1 s m args below meth c H locs cells slots Q (F0 m 712 ls []) := by
  have hx := hF.1
  have hb := hF.2.1
  refine lv_aload_n hx hb dL_law_712 rfl (lv_at hl 1 rfl) ?_
  refine lv_aload_n hx hb dL_law_713 rfl (lv_at hl 0 rfl) ?_
  refine lv_iload_n hx hb dL_law_714 rfl (lv_at hl 3 rfl) ?_
  refine lv_iconst (v := 1) hx hb dL_law_715 (by decide) ?_
  refine lv_iadd hx hb dL_law_716 ?_
  refine va_sld hx hb hX hbl hbA hW.2.2 (si1 hi hL) dL_law_717 ?_
  refine lv_aload_n hx hb dL_law_718 rfl (lv_at hl 0 rfl) ?_
  refine lv_iload_n hx hb dL_law_719 rfl (lv_at hl 3 rfl) ?_
  refine lv_iconst (v := 2) hx hb dL_law_720 (by decide) ?_
  refine lv_iadd hx hb dL_law_721 ?_
  refine va_sld hx hb hX hbl hbA hW.2.2 (si2 hi hL) dL_law_722 ?_
  refine lv_aload_n hx hb dL_law_723 rfl (lv_at hl 0 rfl) ?_
  refine lv_iload_n hx hb dL_law_724 rfl (lv_at hl 3 rfl) ?_
  refine lv_iconst (v := 3) hx hb dL_law_725 (by decide) ?_
  refine lv_iadd hx hb dL_law_726 ?_
  refine va_sld hx hb hX hbl hbA hW.2.2 (si3 hi hL) dL_law_727 ?_
  refine lv_aload_n hx hb dL_law_728 rfl (lv_at hl 0 rfl) ?_
  refine lv_iload_n hx hb dL_law_729 rfl (lv_at hl 3 rfl) ?_
  refine lv_iconst (v := 4) hx hb dL_law_730 (by decide) ?_
  refine lv_iadd hx hb dL_law_731 ?_
  refine va_sld hx hb hX hbl hbA hW.2.2 (si4 hi hL) dL_law_732 ?_
  refine lv_aload_n hx hb dL_law_733 rfl (lv_at hl 0 rfl) ?_
  refine lv_iload_n hx hb dL_law_734 rfl (lv_at hl 3 rfl) ?_
  refine lv_iconst (v := 5) hx hb dL_law_735 (by decide) ?_
  refine lv_iadd hx hb dL_law_736 ?_
  refine va_sld hx hb hX hbl hbA hW.2.2 (si5 hi hL) dL_law_737 ?_
  obtain ⟨r, Mc1, Mm1, h1, h2, hRel1⟩ := hsim Mc Mm (xs (nI i + 1).toNatClampNeg) (xs (nI i + 2).toNatClampNeg) (xs (nI i + 3).toNatClampNeg) (xs (nI i + 4).toNatClampNeg) (xs (nI i + 5).toNatClampNeg) hRel
  refine cVf_i (ci := 11) (q0 := 0) (rest := []) hF hW mw_L_66 (c_X11_copy l K a d h1) ⟨by decide, by decide⟩ rfl rfl (pC_0 K a d _) rfl hl.1 rfl (Nat.le_of_ble_eq_true rfl) dL_law_738 ⟨by dsimp only [room_1]; omega, by dsimp only [room_1]; omega⟩ (fun _ H locs hW => ?_)
  have hW := wd_comm hW
  refine lv_aload_n hx hb dL_law_741 rfl (lv_at hl 2 rfl) ?_
  refine lv_aload_n hx hb dL_law_742 rfl (lv_at hl 0 rfl) ?_
  refine lv_iload_n hx hb dL_law_743 rfl (lv_at hl 3 rfl) ?_
  refine lv_iconst (v := 1) hx hb dL_law_744 (by decide) ?_
  refine lv_iadd hx hb dL_law_745 ?_
  refine va_sld hx hb hX hbl hbA hW.2.2 (si1 hi hL) dL_law_746 ?_
  refine lv_aload_n hx hb dL_law_747 rfl (lv_at hl 0 rfl) ?_
  refine lv_iload_n hx hb dL_law_748 rfl (lv_at hl 3 rfl) ?_
  refine lv_iconst (v := 2) hx hb dL_law_749 (by decide) ?_
  refine lv_iadd hx hb dL_law_750 ?_
  refine va_sld hx hb hX hbl hbA hW.2.2 (si2 hi hL) dL_law_751 ?_
  refine lv_aload_n hx hb dL_law_752 rfl (lv_at hl 0 rfl) ?_
  refine lv_iload_n hx hb dL_law_753 rfl (lv_at hl 3 rfl) ?_
  refine lv_iconst (v := 3) hx hb dL_law_754 (by decide) ?_
  refine lv_iadd hx hb dL_law_755 ?_
  refine va_sld hx hb hX hbl hbA hW.2.2 (si3 hi hL) dL_law_756 ?_
  refine lv_aload_n hx hb dL_law_757 rfl (lv_at hl 0 rfl) ?_
  refine lv_iload_n hx hb dL_law_758 rfl (lv_at hl 3 rfl) ?_
  refine lv_iconst (v := 4) hx hb dL_law_759 (by decide) ?_
  refine lv_iadd hx hb dL_law_760 ?_
  refine va_sld hx hb hX hbl hbA hW.2.2 (si4 hi hL) dL_law_761 ?_
  refine lv_aload_n hx hb dL_law_762 rfl (lv_at hl 0 rfl) ?_
  refine lv_iload_n hx hb dL_law_763 rfl (lv_at hl 3 rfl) ?_
  refine lv_iconst (v := 5) hx hb dL_law_764 (by decide) ?_
  refine lv_iadd hx hb dL_law_765 ?_
  refine va_sld hx hb hX hbl hbA hW.2.2 (si5 hi hL) dL_law_766 ?_
  refine cVf_i (ci := 12) (q0 := 0) (rest := [.int r]) hF hW mw_L_69 (c_X12_copy l K a2 h2) ⟨by decide, by decide⟩ rfl rfl (pM_0 K a2 _) rfl hl.1 rfl (Nat.le_of_ble_eq_true rfl) dL_law_767 ⟨by dsimp only [room_1]; omega, by dsimp only [room_1]; omega⟩ (fun _ H locs hW => ?_)
  have hW := wd_comm hW
  refine lv_icmp_eq (tgt := 1930) hx hb dL_law_770 (by decide) (fun _ => ?_) (fun z => absurd rfl z)
  refine W.widen (k := cells + 3) (n := slots + 1358) (by dsimp only; omega) (by dsimp only; omega) ?_
  exact kk _ _ d _ _ hRel1 hW
set_option maxRecDepth 100000 in
set_option maxHeartbeats 1000000 in
theorem lc_13 (hF : Fx p s m args c code 4 RL K A) (hX : va_X b L xs s s.heap) (hbl : b < s.heap.size) (hbA : ¬ A b) (hi : i + 6 ≤ L) (hL : L ≤ 3072) (hsim : Sim_array Rel) (hRel : Rel Mc Mm) (hW : Wd K A s (wC K a d Mc ++ wM K a2 Mm) H locs) (hl : lv_has ls 4 [(0, .ref b), (1, .ref (a 0)), (2, .ref (a2 0)), (3, .int (nI i))]) (hce : cells + 3 ≤ 600000) (hsl : slots + 1358 ≤ 7302250)
    (kk : ∀ (Mc1 Mm1 : Mem) (d : Nat → Nat) (H : Heap) (locs : List Loc), Rel Mc1 Mm1 → Wd K A s (wC K a d Mc1 ++ wM K a2 Mm1) H locs → W p l e room_1 s m args below meth c H locs (cells + 3) (slots + 1358) Q (F0 m 1930 ls [])) : W p l e room_1 s m args below meth c H locs cells slots Q (F0 m 775 ls []) := by
  have hx := hF.1
  have hb := hF.2.1
  refine lv_aload_n hx hb dL_law_775 rfl (lv_at hl 1 rfl) ?_
  refine lv_aload_n hx hb dL_law_776 rfl (lv_at hl 0 rfl) ?_
  refine lv_iload_n hx hb dL_law_777 rfl (lv_at hl 3 rfl) ?_
  refine lv_iconst (v := 1) hx hb dL_law_778 (by decide) ?_
  refine lv_iadd hx hb dL_law_779 ?_
  refine va_sld hx hb hX hbl hbA hW.2.2 (si1 hi hL) dL_law_780 ?_
  refine lv_aload_n hx hb dL_law_781 rfl (lv_at hl 0 rfl) ?_
  refine lv_iload_n hx hb dL_law_782 rfl (lv_at hl 3 rfl) ?_
  refine lv_iconst (v := 2) hx hb dL_law_783 (by decide) ?_
  refine lv_iadd hx hb dL_law_784 ?_
  refine va_sld hx hb hX hbl hbA hW.2.2 (si2 hi hL) dL_law_785 ?_
  obtain ⟨r, Mc1, Mm1, h1, h2, hRel1⟩ := hsim Mc Mm (xs (nI i + 1).toNatClampNeg) (xs (nI i + 2).toNatClampNeg) hRel
  refine cVf_i (ci := 11) (q0 := 0) (rest := []) hF hW mw_L_70 (c_X11_array l K a d h1) ⟨by decide, by decide⟩ rfl rfl (pC_0 K a d _) rfl hl.1 rfl (Nat.le_of_ble_eq_true rfl) dL_law_786 ⟨by dsimp only [room_1]; omega, by dsimp only [room_1]; omega⟩ (fun d1 H locs hW => ?_)
  have hW := wd_comm hW
  refine lv_aload_n hx hb dL_law_789 rfl (lv_at hl 2 rfl) ?_
  refine lv_aload_n hx hb dL_law_790 rfl (lv_at hl 0 rfl) ?_
  refine lv_iload_n hx hb dL_law_791 rfl (lv_at hl 3 rfl) ?_
  refine lv_iconst (v := 1) hx hb dL_law_792 (by decide) ?_
  refine lv_iadd hx hb dL_law_793 ?_
  refine va_sld hx hb hX hbl hbA hW.2.2 (si1 hi hL) dL_law_794 ?_
  refine lv_aload_n hx hb dL_law_795 rfl (lv_at hl 0 rfl) ?_
  refine lv_iload_n hx hb dL_law_796 rfl (lv_at hl 3 rfl) ?_
  refine lv_iconst (v := 2) hx hb dL_law_797 (by decide) ?_
  refine lv_iadd hx hb dL_law_798 ?_
  refine va_sld hx hb hX hbl hbA hW.2.2 (si2 hi hL) dL_law_799 ?_
  refine cVf_i (ci := 12) (q0 := 0) (rest := [.int r]) hF hW mw_L_73 (c_X12_array l K a2 h2) ⟨by decide, by decide⟩ rfl rfl (pM_0 K a2 _) rfl hl.1 rfl (Nat.le_of_ble_eq_true rfl) dL_law_800 ⟨by dsimp only [room_1]; omega, by dsimp only [room_1]; omega⟩ (fun _ H locs hW => ?_)
  have hW := wd_comm hW
  refine lv_icmp_eq (tgt := 1930) hx hb dL_law_803 (by decide) (fun _ => ?_) (fun z => absurd rfl z)
  refine W.widen (k := cells + 3) (n := slots + 1358) (by dsimp only; omega) (by dsimp only; omega) ?_
  exact kk _ _ d1 _ _ hRel1 hW
set_option maxRecDepth 100000 in
set_option maxHeartbeats 1000000 in
theorem lc_14 (hF : Fx p s m args c code 4 RL K A) (hX : va_X b L xs s s.heap) (hbl : b < s.heap.size) (hbA : ¬ A b) (hi : i + 6 ≤ L) (hL : L ≤ 3072) (hsim : Sim_row Rel) (hRel : Rel Mc Mm) (hW : Wd K A s (wC K a d Mc ++ wM K a2 Mm) H locs) (hl : lv_has ls 4 [(0, .ref b), (1, .ref (a 0)), (2, .ref (a2 0)), (3, .int (nI i))]) (hce : cells + 3 ≤ 600000) (hsl : slots + 1358 ≤ 7302250)
    (kk : ∀ (Mc1 Mm1 : Mem) (d : Nat → Nat) (H : Heap) (locs : List Loc), Rel Mc1 Mm1 → Wd K A s (wC K a d Mc1 ++ wM K a2 Mm1) H locs → W p l e room_1 s m args below meth c H locs (cells + 3) (slots + 1358) Q (F0 m 1930 ls [])) : W p l e room_1 s m args below meth c H locs cells slots Q (F0 m 808 ls []) := by
  have hx := hF.1
  have hb := hF.2.1
  refine lv_aload_n hx hb dL_law_808 rfl (lv_at hl 1 rfl) ?_
  refine lv_aload_n hx hb dL_law_809 rfl (lv_at hl 0 rfl) ?_
  refine lv_iload_n hx hb dL_law_810 rfl (lv_at hl 3 rfl) ?_
  refine lv_iconst (v := 1) hx hb dL_law_811 (by decide) ?_
  refine lv_iadd hx hb dL_law_812 ?_
  refine va_sld hx hb hX hbl hbA hW.2.2 (si1 hi hL) dL_law_813 ?_
  refine lv_aload_n hx hb dL_law_814 rfl (lv_at hl 0 rfl) ?_
  refine lv_iload_n hx hb dL_law_815 rfl (lv_at hl 3 rfl) ?_
  refine lv_iconst (v := 2) hx hb dL_law_816 (by decide) ?_
  refine lv_iadd hx hb dL_law_817 ?_
  refine va_sld hx hb hX hbl hbA hW.2.2 (si2 hi hL) dL_law_818 ?_
  refine lv_aload_n hx hb dL_law_819 rfl (lv_at hl 0 rfl) ?_
  refine lv_iload_n hx hb dL_law_820 rfl (lv_at hl 3 rfl) ?_
  refine lv_iconst (v := 3) hx hb dL_law_821 (by decide) ?_
  refine lv_iadd hx hb dL_law_822 ?_
  refine va_sld hx hb hX hbl hbA hW.2.2 (si3 hi hL) dL_law_823 ?_
  obtain ⟨r, Mc1, Mm1, h1, h2, hRel1⟩ := hsim Mc Mm (xs (nI i + 1).toNatClampNeg) (xs (nI i + 2).toNatClampNeg) (xs (nI i + 3).toNatClampNeg) hRel
  refine cVf_i (ci := 11) (q0 := 0) (rest := []) hF hW mw_L_74 (c_X11_row l K a d h1) ⟨by decide, by decide⟩ rfl rfl (pC_0 K a d _) rfl hl.1 rfl (Nat.le_of_ble_eq_true rfl) dL_law_824 ⟨by dsimp only [room_1]; omega, by dsimp only [room_1]; omega⟩ (fun _ H locs hW => ?_)
  have hW := wd_comm hW
  refine lv_aload_n hx hb dL_law_827 rfl (lv_at hl 2 rfl) ?_
  refine lv_aload_n hx hb dL_law_828 rfl (lv_at hl 0 rfl) ?_
  refine lv_iload_n hx hb dL_law_829 rfl (lv_at hl 3 rfl) ?_
  refine lv_iconst (v := 1) hx hb dL_law_830 (by decide) ?_
  refine lv_iadd hx hb dL_law_831 ?_
  refine va_sld hx hb hX hbl hbA hW.2.2 (si1 hi hL) dL_law_832 ?_
  refine lv_aload_n hx hb dL_law_833 rfl (lv_at hl 0 rfl) ?_
  refine lv_iload_n hx hb dL_law_834 rfl (lv_at hl 3 rfl) ?_
  refine lv_iconst (v := 2) hx hb dL_law_835 (by decide) ?_
  refine lv_iadd hx hb dL_law_836 ?_
  refine va_sld hx hb hX hbl hbA hW.2.2 (si2 hi hL) dL_law_837 ?_
  refine lv_aload_n hx hb dL_law_838 rfl (lv_at hl 0 rfl) ?_
  refine lv_iload_n hx hb dL_law_839 rfl (lv_at hl 3 rfl) ?_
  refine lv_iconst (v := 3) hx hb dL_law_840 (by decide) ?_
  refine lv_iadd hx hb dL_law_841 ?_
  refine va_sld hx hb hX hbl hbA hW.2.2 (si3 hi hL) dL_law_842 ?_
  refine cVf_i (ci := 12) (q0 := 0) (rest := [.int r]) hF hW mw_L_77 (c_X12_row l K a2 h2) ⟨by decide, by decide⟩ rfl rfl (pM_0 K a2 _) rfl hl.1 rfl (Nat.le_of_ble_eq_true rfl) dL_law_843 ⟨by dsimp only [room_1]; omega, by dsimp only [room_1]; omega⟩ (fun _ H locs hW => ?_)
  have hW := wd_comm hW
  refine lv_icmp_eq (tgt := 1930) hx hb dL_law_846 (by decide) (fun _ => ?_) (fun z => absurd rfl z)
  refine W.widen (k := cells + 3) (n := slots + 1358) (by dsimp only; omega) (by dsimp only; omega) ?_
  exact kk _ _ d _ _ hRel1 hW
set_option maxRecDepth 100000 in
set_option maxHeartbeats 1000000 in
theorem lc_15 (hF : Fx p s m args c code 4 RL K A) (hX : va_X b L xs s s.heap) (hbl : b < s.heap.size) (hbA : ¬ A b) (hi : i + 6 ≤ L) (hL : L ≤ 3072) (hsim : Sim_tear Rel) (hRel : Rel Mc Mm) (hW : Wd K A s (wC K a d Mc ++ wM K a2 Mm) H locs) (hl : lv_has ls 4 [(0, .ref b), (1, .ref (a 0)), (2, .ref (a2 0)), (3, .int (nI i))]) (hce : cells + 3 ≤ 600000) (hsl : slots + 1358 ≤ 7302250)
    (kk : ∀ (Mc1 Mm1 : Mem) (d : Nat → Nat) (H : Heap) (locs : List Loc), Rel Mc1 Mm1 → Wd K A s (wC K a d Mc1 ++ wM K a2 Mm1) H locs → W p l e room_1 s m args below meth c H locs (cells + 3) (slots + 1358) Q (F0 m 1930 ls [])) : W p l e room_1 s m args below meth c H locs cells slots Q (F0 m 851 ls []) := by
  have hx := hF.1
  have hb := hF.2.1
  refine lv_aload_n hx hb dL_law_851 rfl (lv_at hl 1 rfl) ?_
  refine lv_aload_n hx hb dL_law_852 rfl (lv_at hl 0 rfl) ?_
  refine lv_iload_n hx hb dL_law_853 rfl (lv_at hl 3 rfl) ?_
  refine lv_iconst (v := 1) hx hb dL_law_854 (by decide) ?_
  refine lv_iadd hx hb dL_law_855 ?_
  refine va_sld hx hb hX hbl hbA hW.2.2 (si1 hi hL) dL_law_856 ?_
  refine lv_aload_n hx hb dL_law_857 rfl (lv_at hl 0 rfl) ?_
  refine lv_iload_n hx hb dL_law_858 rfl (lv_at hl 3 rfl) ?_
  refine lv_iconst (v := 2) hx hb dL_law_859 (by decide) ?_
  refine lv_iadd hx hb dL_law_860 ?_
  refine va_sld hx hb hX hbl hbA hW.2.2 (si2 hi hL) dL_law_861 ?_
  obtain ⟨r, Mc1, Mm1, h1, h2, hRel1⟩ := hsim Mc Mm (xs (nI i + 1).toNatClampNeg) (xs (nI i + 2).toNatClampNeg) hRel
  refine cVf_i (ci := 11) (q0 := 0) (rest := []) hF hW mw_L_78 (c_X11_tear l K a d h1) ⟨by decide, by decide⟩ rfl rfl (pC_0 K a d _) rfl hl.1 rfl (Nat.le_of_ble_eq_true rfl) dL_law_862 ⟨by dsimp only [room_1]; omega, by dsimp only [room_1]; omega⟩ (fun _ H locs hW => ?_)
  have hW := wd_comm hW
  refine lv_aload_n hx hb dL_law_865 rfl (lv_at hl 2 rfl) ?_
  refine lv_aload_n hx hb dL_law_866 rfl (lv_at hl 0 rfl) ?_
  refine lv_iload_n hx hb dL_law_867 rfl (lv_at hl 3 rfl) ?_
  refine lv_iconst (v := 1) hx hb dL_law_868 (by decide) ?_
  refine lv_iadd hx hb dL_law_869 ?_
  refine va_sld hx hb hX hbl hbA hW.2.2 (si1 hi hL) dL_law_870 ?_
  refine lv_aload_n hx hb dL_law_871 rfl (lv_at hl 0 rfl) ?_
  refine lv_iload_n hx hb dL_law_872 rfl (lv_at hl 3 rfl) ?_
  refine lv_iconst (v := 2) hx hb dL_law_873 (by decide) ?_
  refine lv_iadd hx hb dL_law_874 ?_
  refine va_sld hx hb hX hbl hbA hW.2.2 (si2 hi hL) dL_law_875 ?_
  refine cVf_i (ci := 12) (q0 := 0) (rest := [.int r]) hF hW mw_L_81 (c_X12_tear l K a2 h2) ⟨by decide, by decide⟩ rfl rfl (pM_0 K a2 _) rfl hl.1 rfl (Nat.le_of_ble_eq_true rfl) dL_law_876 ⟨by dsimp only [room_1]; omega, by dsimp only [room_1]; omega⟩ (fun _ H locs hW => ?_)
  have hW := wd_comm hW
  refine lv_icmp_eq (tgt := 1930) hx hb dL_law_879 (by decide) (fun _ => ?_) (fun z => absurd rfl z)
  refine W.widen (k := cells + 3) (n := slots + 1358) (by dsimp only; omega) (by dsimp only; omega) ?_
  exact kk _ _ d _ _ hRel1 hW
set_option maxRecDepth 100000 in
set_option maxHeartbeats 1000000 in
theorem lc_16 (hF : Fx p s m args c code 4 RL K A) (hX : va_X b L xs s s.heap) (hbl : b < s.heap.size) (hbA : ¬ A b) (hi : i + 6 ≤ L) (hL : L ≤ 3072) (hsim : Sim_lay Rel) (hRel : Rel Mc Mm) (hW : Wd K A s (wC K a d Mc ++ wM K a2 Mm) H locs) (hl : lv_has ls 4 [(0, .ref b), (1, .ref (a 0)), (2, .ref (a2 0)), (3, .int (nI i))]) (hce : cells + 3 ≤ 600000) (hsl : slots + 1358 ≤ 7302250)
    (kk : ∀ (Mc1 Mm1 : Mem) (d : Nat → Nat) (H : Heap) (locs : List Loc), Rel Mc1 Mm1 → Wd K A s (wC K a d Mc1 ++ wM K a2 Mm1) H locs → W p l e room_1 s m args below meth c H locs (cells + 3) (slots + 1358) Q (F0 m 1930 ls [])) : W p l e room_1 s m args below meth c H locs cells slots Q (F0 m 884 ls []) := by
  have hx := hF.1
  have hb := hF.2.1
  refine lv_aload_n hx hb dL_law_884 rfl (lv_at hl 1 rfl) ?_
  refine lv_aload_n hx hb dL_law_885 rfl (lv_at hl 0 rfl) ?_
  refine lv_iload_n hx hb dL_law_886 rfl (lv_at hl 3 rfl) ?_
  refine lv_iconst (v := 1) hx hb dL_law_887 (by decide) ?_
  refine lv_iadd hx hb dL_law_888 ?_
  refine va_sld hx hb hX hbl hbA hW.2.2 (si1 hi hL) dL_law_889 ?_
  refine lv_aload_n hx hb dL_law_890 rfl (lv_at hl 0 rfl) ?_
  refine lv_iload_n hx hb dL_law_891 rfl (lv_at hl 3 rfl) ?_
  refine lv_iconst (v := 2) hx hb dL_law_892 (by decide) ?_
  refine lv_iadd hx hb dL_law_893 ?_
  refine va_sld hx hb hX hbl hbA hW.2.2 (si2 hi hL) dL_law_894 ?_
  refine lv_aload_n hx hb dL_law_895 rfl (lv_at hl 0 rfl) ?_
  refine lv_iload_n hx hb dL_law_896 rfl (lv_at hl 3 rfl) ?_
  refine lv_iconst (v := 3) hx hb dL_law_897 (by decide) ?_
  refine lv_iadd hx hb dL_law_898 ?_
  refine va_sld hx hb hX hbl hbA hW.2.2 (si3 hi hL) dL_law_899 ?_
  refine lv_aload_n hx hb dL_law_900 rfl (lv_at hl 0 rfl) ?_
  refine lv_iload_n hx hb dL_law_901 rfl (lv_at hl 3 rfl) ?_
  refine lv_iconst (v := 4) hx hb dL_law_902 (by decide) ?_
  refine lv_iadd hx hb dL_law_903 ?_
  refine va_sld hx hb hX hbl hbA hW.2.2 (si4 hi hL) dL_law_904 ?_
  refine lv_i2l hx hb dL_law_905 rfl ?_
  refine lv_bipush (v := 32) hx hb dL_law_906 (by decide) ?_
  refine lv_lshl hx hb dL_law_908 rfl ?_
  refine lv_aload_n hx hb dL_law_909 rfl (lv_at hl 0 rfl) ?_
  refine lv_iload_n hx hb dL_law_910 rfl (lv_at hl 3 rfl) ?_
  refine lv_iconst (v := 5) hx hb dL_law_911 (by decide) ?_
  refine lv_iadd hx hb dL_law_912 ?_
  refine va_sld hx hb hX hbl hbA hW.2.2 (si5 hi hL) dL_law_913 ?_
  refine lv_i2l hx hb dL_law_914 rfl ?_
  refine lv_ldc2 hx hb hF.2.2.2.1 (hF.2.2.1 _ kl_L_82) dL_law_915 ?_
  refine lv_land hx hb dL_law_918 ?_
  refine lv_lor hx hb dL_law_919 ?_
  obtain ⟨r, Mc1, Mm1, h1, h2, hRel1⟩ := hsim Mc Mm (xs (nI i + 1).toNatClampNeg) (xs (nI i + 2).toNatClampNeg) (xs (nI i + 3).toNatClampNeg) (((xs (nI i + 4).toNatClampNeg).toInt64 <<< ((32 : Int32).toInt64 &&& 63)) ||| ((xs (nI i + 5).toNatClampNeg).toInt64 &&& 4294967295)) hRel
  refine cVf_i (ci := 11) (q0 := 0) (rest := []) hF hW mw_L_84 (c_X11_lay l K a d h1) ⟨by decide, by decide⟩ rfl rfl (pC_0 K a d _) rfl hl.1 rfl (Nat.le_of_ble_eq_true rfl) dL_law_920 ⟨by dsimp only [room_1]; omega, by dsimp only [room_1]; omega⟩ (fun _ H locs hW => ?_)
  have hW := wd_comm hW
  refine lv_aload_n hx hb dL_law_923 rfl (lv_at hl 2 rfl) ?_
  refine lv_aload_n hx hb dL_law_924 rfl (lv_at hl 0 rfl) ?_
  refine lv_iload_n hx hb dL_law_925 rfl (lv_at hl 3 rfl) ?_
  refine lv_iconst (v := 1) hx hb dL_law_926 (by decide) ?_
  refine lv_iadd hx hb dL_law_927 ?_
  refine va_sld hx hb hX hbl hbA hW.2.2 (si1 hi hL) dL_law_928 ?_
  refine lv_aload_n hx hb dL_law_929 rfl (lv_at hl 0 rfl) ?_
  refine lv_iload_n hx hb dL_law_930 rfl (lv_at hl 3 rfl) ?_
  refine lv_iconst (v := 2) hx hb dL_law_931 (by decide) ?_
  refine lv_iadd hx hb dL_law_932 ?_
  refine va_sld hx hb hX hbl hbA hW.2.2 (si2 hi hL) dL_law_933 ?_
  refine lv_aload_n hx hb dL_law_934 rfl (lv_at hl 0 rfl) ?_
  refine lv_iload_n hx hb dL_law_935 rfl (lv_at hl 3 rfl) ?_
  refine lv_iconst (v := 3) hx hb dL_law_936 (by decide) ?_
  refine lv_iadd hx hb dL_law_937 ?_
  refine va_sld hx hb hX hbl hbA hW.2.2 (si3 hi hL) dL_law_938 ?_
  refine lv_aload_n hx hb dL_law_939 rfl (lv_at hl 0 rfl) ?_
  refine lv_iload_n hx hb dL_law_940 rfl (lv_at hl 3 rfl) ?_
  refine lv_iconst (v := 4) hx hb dL_law_941 (by decide) ?_
  refine lv_iadd hx hb dL_law_942 ?_
  refine va_sld hx hb hX hbl hbA hW.2.2 (si4 hi hL) dL_law_943 ?_
  refine lv_i2l hx hb dL_law_944 rfl ?_
  refine lv_bipush (v := 32) hx hb dL_law_945 (by decide) ?_
  refine lv_lshl hx hb dL_law_947 rfl ?_
  refine lv_aload_n hx hb dL_law_948 rfl (lv_at hl 0 rfl) ?_
  refine lv_iload_n hx hb dL_law_949 rfl (lv_at hl 3 rfl) ?_
  refine lv_iconst (v := 5) hx hb dL_law_950 (by decide) ?_
  refine lv_iadd hx hb dL_law_951 ?_
  refine va_sld hx hb hX hbl hbA hW.2.2 (si5 hi hL) dL_law_952 ?_
  refine lv_i2l hx hb dL_law_953 rfl ?_
  refine lv_ldc2 hx hb hF.2.2.2.1 (hF.2.2.1 _ kl_L_82) dL_law_954 ?_
  refine lv_land hx hb dL_law_957 ?_
  refine lv_lor hx hb dL_law_958 ?_
  refine cVf_i (ci := 12) (q0 := 0) (rest := [.int r]) hF hW mw_L_88 (c_X12_lay l K a2 h2) ⟨by decide, by decide⟩ rfl rfl (pM_0 K a2 _) rfl hl.1 rfl (Nat.le_of_ble_eq_true rfl) dL_law_959 ⟨by dsimp only [room_1]; omega, by dsimp only [room_1]; omega⟩ (fun _ H locs hW => ?_)
  have hW := wd_comm hW
  refine lv_icmp_eq (tgt := 1930) hx hb dL_law_962 (by decide) (fun _ => ?_) (fun z => absurd rfl z)
  refine W.widen (k := cells + 3) (n := slots + 1358) (by dsimp only; omega) (by dsimp only; omega) ?_
  exact kk _ _ d _ _ hRel1 hW
set_option maxRecDepth 100000 in
set_option maxHeartbeats 1000000 in
theorem lc_17 (hF : Fx p s m args c code 4 RL K A) (hX : va_X b L xs s s.heap) (hbl : b < s.heap.size) (hbA : ¬ A b) (hi : i + 6 ≤ L) (hL : L ≤ 3072) (hsim : Sim_get Rel) (hRel : Rel Mc Mm) (hW : Wd K A s (wC K a d Mc ++ wM K a2 Mm) H locs) (hl : lv_has ls 4 [(0, .ref b), (1, .ref (a 0)), (2, .ref (a2 0)), (3, .int (nI i))]) (hce : cells + 3 ≤ 600000) (hsl : slots + 1358 ≤ 7302250)
    (kk : ∀ (Mc1 Mm1 : Mem) (d : Nat → Nat) (H : Heap) (locs : List Loc), Rel Mc1 Mm1 → Wd K A s (wC K a d Mc1 ++ wM K a2 Mm1) H locs → W p l e room_1 s m args below meth c H locs (cells + 3) (slots + 1358) Q (F0 m 1930 ls [])) : W p l e room_1 s m args below meth c H locs cells slots Q (F0 m 967 ls []) := by
  have hx := hF.1
  have hb := hF.2.1
  refine lv_aload_n hx hb dL_law_967 rfl (lv_at hl 1 rfl) ?_
  refine lv_aload_n hx hb dL_law_968 rfl (lv_at hl 0 rfl) ?_
  refine lv_iload_n hx hb dL_law_969 rfl (lv_at hl 3 rfl) ?_
  refine lv_iconst (v := 1) hx hb dL_law_970 (by decide) ?_
  refine lv_iadd hx hb dL_law_971 ?_
  refine va_sld hx hb hX hbl hbA hW.2.2 (si1 hi hL) dL_law_972 ?_
  refine lv_aload_n hx hb dL_law_973 rfl (lv_at hl 0 rfl) ?_
  refine lv_iload_n hx hb dL_law_974 rfl (lv_at hl 3 rfl) ?_
  refine lv_iconst (v := 2) hx hb dL_law_975 (by decide) ?_
  refine lv_iadd hx hb dL_law_976 ?_
  refine va_sld hx hb hX hbl hbA hW.2.2 (si2 hi hL) dL_law_977 ?_
  refine lv_aload_n hx hb dL_law_978 rfl (lv_at hl 0 rfl) ?_
  refine lv_iload_n hx hb dL_law_979 rfl (lv_at hl 3 rfl) ?_
  refine lv_iconst (v := 3) hx hb dL_law_980 (by decide) ?_
  refine lv_iadd hx hb dL_law_981 ?_
  refine va_sld hx hb hX hbl hbA hW.2.2 (si3 hi hL) dL_law_982 ?_
  obtain ⟨r, Mc1, Mm1, h1, h2, hRel1⟩ := hsim Mc Mm (xs (nI i + 1).toNatClampNeg) (xs (nI i + 2).toNatClampNeg) (xs (nI i + 3).toNatClampNeg) hRel
  refine cVf_i (ci := 11) (q0 := 0) (rest := []) hF hW mw_L_89 (c_X11_get l K a d h1) ⟨by decide, by decide⟩ rfl rfl (pC_0 K a d _) rfl hl.1 rfl (Nat.le_of_ble_eq_true rfl) dL_law_983 ⟨by dsimp only [room_1]; omega, by dsimp only [room_1]; omega⟩ (fun _ H locs hW => ?_)
  have hW := wd_comm hW
  refine lv_aload_n hx hb dL_law_986 rfl (lv_at hl 2 rfl) ?_
  refine lv_aload_n hx hb dL_law_987 rfl (lv_at hl 0 rfl) ?_
  refine lv_iload_n hx hb dL_law_988 rfl (lv_at hl 3 rfl) ?_
  refine lv_iconst (v := 1) hx hb dL_law_989 (by decide) ?_
  refine lv_iadd hx hb dL_law_990 ?_
  refine va_sld hx hb hX hbl hbA hW.2.2 (si1 hi hL) dL_law_991 ?_
  refine lv_aload_n hx hb dL_law_992 rfl (lv_at hl 0 rfl) ?_
  refine lv_iload_n hx hb dL_law_993 rfl (lv_at hl 3 rfl) ?_
  refine lv_iconst (v := 2) hx hb dL_law_994 (by decide) ?_
  refine lv_iadd hx hb dL_law_995 ?_
  refine va_sld hx hb hX hbl hbA hW.2.2 (si2 hi hL) dL_law_996 ?_
  refine lv_aload_n hx hb dL_law_997 rfl (lv_at hl 0 rfl) ?_
  refine lv_iload_n hx hb dL_law_998 rfl (lv_at hl 3 rfl) ?_
  refine lv_iconst (v := 3) hx hb dL_law_999 (by decide) ?_
  refine lv_iadd hx hb dL_law_1000 ?_
  refine va_sld hx hb hX hbl hbA hW.2.2 (si3 hi hL) dL_law_1001 ?_
  refine cVf_i (ci := 12) (q0 := 0) (rest := [.int r]) hF hW mw_L_92 (c_X12_get l K a2 h2) ⟨by decide, by decide⟩ rfl rfl (pM_0 K a2 _) rfl hl.1 rfl (Nat.le_of_ble_eq_true rfl) dL_law_1002 ⟨by dsimp only [room_1]; omega, by dsimp only [room_1]; omega⟩ (fun _ H locs hW => ?_)
  have hW := wd_comm hW
  refine lv_icmp_eq (tgt := 1930) hx hb dL_law_1005 (by decide) (fun _ => ?_) (fun z => absurd rfl z)
  refine W.widen (k := cells + 3) (n := slots + 1358) (by dsimp only; omega) (by dsimp only; omega) ?_
  exact kk _ _ d _ _ hRel1 hW
set_option maxRecDepth 100000 in
set_option maxHeartbeats 1000000 in
theorem lc_18 (hF : Fx p s m args c code 4 RL K A) (hX : va_X b L xs s s.heap) (hbl : b < s.heap.size) (hbA : ¬ A b) (hi : i + 6 ≤ L) (hL : L ≤ 3072) (hsim : Sim_asked Rel) (hRel : Rel Mc Mm) (hW : Wd K A s (wC K a d Mc ++ wM K a2 Mm) H locs) (hl : lv_has ls 4 [(0, .ref b), (1, .ref (a 0)), (2, .ref (a2 0)), (3, .int (nI i))]) (hce : cells + 3 ≤ 600000) (hsl : slots + 1358 ≤ 7302250)
    (kk : ∀ (Mc1 Mm1 : Mem) (d : Nat → Nat) (H : Heap) (locs : List Loc), Rel Mc1 Mm1 → Wd K A s (wC K a d Mc1 ++ wM K a2 Mm1) H locs → W p l e room_1 s m args below meth c H locs (cells + 3) (slots + 1358) Q (F0 m 1930 ls [])) : W p l e room_1 s m args below meth c H locs cells slots Q (F0 m 1010 ls []) := by
  have hx := hF.1
  have hb := hF.2.1
  refine lv_aload_n hx hb dL_law_1010 rfl (lv_at hl 1 rfl) ?_
  obtain ⟨r, Mc1, Mm1, h1, h2, hRel1⟩ := hsim Mc Mm hRel
  obtain ⟨h1, rfl⟩ := h1
  obtain ⟨h2, rfl⟩ := h2
  refine cVf_l (ci := 11) (q0 := 0) (rest := []) hF hW mw_L_93 (c_X11_asked l K a d h1) ⟨by decide, by decide⟩ rfl rfl (pC_0 K a d _) rfl hl.1 rfl (Nat.le_of_ble_eq_true rfl) dL_law_1011 ⟨by dsimp only [room_1]; omega, by dsimp only [room_1]; omega⟩ (fun _ H locs hW => ?_)
  have hW := wd_comm hW
  refine lv_aload_n hx hb dL_law_1014 rfl (lv_at hl 2 rfl) ?_
  refine cVf_l (ci := 12) (q0 := 0) (rest := [.long r]) hF hW mw_L_97 (c_X12_asked l K a2 h2) ⟨by decide, by decide⟩ rfl rfl (pM_0 K a2 _) rfl hl.1 rfl (Nat.le_of_ble_eq_true rfl) dL_law_1015 ⟨by dsimp only [room_1]; omega, by dsimp only [room_1]; omega⟩ (fun _ H locs hW => ?_)
  have hW := wd_comm hW
  refine ll_eq (tgt := 1930) hx hb dL_law_1018 dL_law_1019 (by decide) (fun _ => ?_) (fun z => absurd rfl z)
  refine W.widen (k := cells + 3) (n := slots + 1358) (by dsimp only; omega) (by dsimp only; omega) ?_
  exact kk _ _ d _ _ hRel1 hW
set_option maxRecDepth 100000 in
set_option maxHeartbeats 1000000 in
theorem lc_19 (hF : Fx p s m args c code 4 RL K A) (hX : va_X b L xs s s.heap) (hbl : b < s.heap.size) (hbA : ¬ A b) (hi : i + 6 ≤ L) (hL : L ≤ 3072) (hsim : Sim_visits Rel) (hRel : Rel Mc Mm) (hW : Wd K A s (wC K a d Mc ++ wM K a2 Mm) H locs) (hl : lv_has ls 4 [(0, .ref b), (1, .ref (a 0)), (2, .ref (a2 0)), (3, .int (nI i))]) (hce : cells + 3 ≤ 600000) (hsl : slots + 1358 ≤ 7302250)
    (kk : ∀ (Mc1 Mm1 : Mem) (d : Nat → Nat) (H : Heap) (locs : List Loc), Rel Mc1 Mm1 → Wd K A s (wC K a d Mc1 ++ wM K a2 Mm1) H locs → W p l e room_1 s m args below meth c H locs (cells + 3) (slots + 1358) Q (F0 m 1930 ls [])) : W p l e room_1 s m args below meth c H locs cells slots Q (F0 m 1024 ls []) := by
  have hx := hF.1
  have hb := hF.2.1
  refine lv_aload_n hx hb dL_law_1024 rfl (lv_at hl 1 rfl) ?_
  obtain ⟨r, Mc1, Mm1, h1, h2, hRel1⟩ := hsim Mc Mm hRel
  refine cVf_i (ci := 11) (q0 := 0) (rest := []) hF hW mw_L_98 (c_X11_visits l K a d h1) ⟨by decide, by decide⟩ rfl rfl (pC_0 K a d _) rfl hl.1 rfl (Nat.le_of_ble_eq_true rfl) dL_law_1025 ⟨by dsimp only [room_1]; omega, by dsimp only [room_1]; omega⟩ (fun _ H locs hW => ?_)
  have hW := wd_comm hW
  refine lv_aload_n hx hb dL_law_1028 rfl (lv_at hl 2 rfl) ?_
  refine cVf_i (ci := 12) (q0 := 0) (rest := [.int r]) hF hW mw_L_101 (c_X12_visits l K a2 h2) ⟨by decide, by decide⟩ rfl rfl (pM_0 K a2 _) rfl hl.1 rfl (Nat.le_of_ble_eq_true rfl) dL_law_1029 ⟨by dsimp only [room_1]; omega, by dsimp only [room_1]; omega⟩ (fun _ H locs hW => ?_)
  have hW := wd_comm hW
  refine lv_icmp_eq (tgt := 1930) hx hb dL_law_1032 (by decide) (fun _ => ?_) (fun z => absurd rfl z)
  refine W.widen (k := cells + 3) (n := slots + 1358) (by dsimp only; omega) (by dsimp only; omega) ?_
  exact kk _ _ d _ _ hRel1 hW
set_option maxRecDepth 100000 in
set_option maxHeartbeats 1000000 in
theorem lc_20 (hF : Fx p s m args c code 4 RL K A) (hX : va_X b L xs s s.heap) (hbl : b < s.heap.size) (hbA : ¬ A b) (hi : i + 6 ≤ L) (hL : L ≤ 3072) (hsim : Sim_visit Rel) (hRel : Rel Mc Mm) (hW : Wd K A s (wC K a d Mc ++ wM K a2 Mm) H locs) (hl : lv_has ls 4 [(0, .ref b), (1, .ref (a 0)), (2, .ref (a2 0)), (3, .int (nI i))]) (hce : cells + 3 ≤ 600000) (hsl : slots + 1358 ≤ 7302250)
    (kk : ∀ (Mc1 Mm1 : Mem) (d : Nat → Nat) (H : Heap) (locs : List Loc), Rel Mc1 Mm1 → Wd K A s (wC K a d Mc1 ++ wM K a2 Mm1) H locs → W p l e room_1 s m args below meth c H locs (cells + 3) (slots + 1358) Q (F0 m 1930 ls [])) : W p l e room_1 s m args below meth c H locs cells slots Q (F0 m 1037 ls []) := by
  have hx := hF.1
  have hb := hF.2.1
  refine lv_aload_n hx hb dL_law_1037 rfl (lv_at hl 1 rfl) ?_
  refine lv_aload_n hx hb dL_law_1038 rfl (lv_at hl 0 rfl) ?_
  refine lv_iload_n hx hb dL_law_1039 rfl (lv_at hl 3 rfl) ?_
  refine lv_iconst (v := 1) hx hb dL_law_1040 (by decide) ?_
  refine lv_iadd hx hb dL_law_1041 ?_
  refine va_sld hx hb hX hbl hbA hW.2.2 (si1 hi hL) dL_law_1042 ?_
  refine lv_aload_n hx hb dL_law_1043 rfl (lv_at hl 0 rfl) ?_
  refine lv_iload_n hx hb dL_law_1044 rfl (lv_at hl 3 rfl) ?_
  refine lv_iconst (v := 2) hx hb dL_law_1045 (by decide) ?_
  refine lv_iadd hx hb dL_law_1046 ?_
  refine va_sld hx hb hX hbl hbA hW.2.2 (si2 hi hL) dL_law_1047 ?_
  refine lv_aload_n hx hb dL_law_1048 rfl (lv_at hl 0 rfl) ?_
  refine lv_iload_n hx hb dL_law_1049 rfl (lv_at hl 3 rfl) ?_
  refine lv_iconst (v := 3) hx hb dL_law_1050 (by decide) ?_
  refine lv_iadd hx hb dL_law_1051 ?_
  refine va_sld hx hb hX hbl hbA hW.2.2 (si3 hi hL) dL_law_1052 ?_
  refine lv_if_eq (tgt := 1060) hx hb dL_law_1053 (by decide) (fun q0 => ?_) (fun q0 => ?_)
  · refine lv_iconst (v := 0) hx hb dL_law_1060 (by decide) ?_
    obtain ⟨r, Mc1, Mm1, h1, h2, hRel1⟩ := hsim Mc Mm (xs (nI i + 1).toNatClampNeg) (xs (nI i + 2).toNatClampNeg) false hRel
    refine cVf_i (ci := 11) (q0 := 0) (rest := []) hF hW mw_L_102 (c_X11_visit l K a d h1) ⟨by decide, by decide⟩ rfl rfl (pC_0 K a d _) rfl hl.1 rfl (Nat.le_of_ble_eq_true rfl) dL_law_1061 ⟨by dsimp only [room_1]; omega, by dsimp only [room_1]; omega⟩ (fun _ H locs hW => ?_)
    have hW := wd_comm hW
    refine lv_aload_n hx hb dL_law_1064 rfl (lv_at hl 2 rfl) ?_
    refine lv_aload_n hx hb dL_law_1065 rfl (lv_at hl 0 rfl) ?_
    refine lv_iload_n hx hb dL_law_1066 rfl (lv_at hl 3 rfl) ?_
    refine lv_iconst (v := 1) hx hb dL_law_1067 (by decide) ?_
    refine lv_iadd hx hb dL_law_1068 ?_
    refine va_sld hx hb hX hbl hbA hW.2.2 (si1 hi hL) dL_law_1069 ?_
    refine lv_aload_n hx hb dL_law_1070 rfl (lv_at hl 0 rfl) ?_
    refine lv_iload_n hx hb dL_law_1071 rfl (lv_at hl 3 rfl) ?_
    refine lv_iconst (v := 2) hx hb dL_law_1072 (by decide) ?_
    refine lv_iadd hx hb dL_law_1073 ?_
    refine va_sld hx hb hX hbl hbA hW.2.2 (si2 hi hL) dL_law_1074 ?_
    refine lv_aload_n hx hb dL_law_1075 rfl (lv_at hl 0 rfl) ?_
    refine lv_iload_n hx hb dL_law_1076 rfl (lv_at hl 3 rfl) ?_
    refine lv_iconst (v := 3) hx hb dL_law_1077 (by decide) ?_
    refine lv_iadd hx hb dL_law_1078 ?_
    refine va_sld hx hb hX hbl hbA hW.2.2 (si3 hi hL) dL_law_1079 ?_
    refine lv_if_eq (tgt := 1087) hx hb dL_law_1080 (by decide) (fun _ => ?_) (fun z => absurd q0 z)
    refine lv_iconst (v := 0) hx hb dL_law_1087 (by decide) ?_
    refine cVf_i (ci := 12) (q0 := 0) (rest := [.int r]) hF hW mw_L_106 (c_X12_visit l K a2 h2) ⟨by decide, by decide⟩ rfl rfl (pM_0 K a2 _) rfl hl.1 rfl (Nat.le_of_ble_eq_true rfl) dL_law_1088 ⟨by dsimp only [room_1]; omega, by dsimp only [room_1]; omega⟩ (fun _ H locs hW => ?_)
    have hW := wd_comm hW
    refine lv_icmp_eq (tgt := 1930) hx hb dL_law_1091 (by decide) (fun _ => ?_) (fun z => absurd rfl z)
    refine W.widen (k := cells + 3) (n := slots + 1358) (by dsimp only; omega) (by dsimp only; omega) ?_
    exact kk _ _ d _ _ hRel1 hW
  · refine lv_iconst (v := 1) hx hb dL_law_1056 (by decide) ?_
    refine lv_goto (tgt := 1061) hx hb dL_law_1057 (by decide) ?_
    obtain ⟨r, Mc1, Mm1, h1, h2, hRel1⟩ := hsim Mc Mm (xs (nI i + 1).toNatClampNeg) (xs (nI i + 2).toNatClampNeg) true hRel
    refine cVf_i (ci := 11) (q0 := 0) (rest := []) hF hW mw_L_102 (c_X11_visit l K a d h1) ⟨by decide, by decide⟩ rfl rfl (pC_0 K a d _) rfl hl.1 rfl (Nat.le_of_ble_eq_true rfl) dL_law_1061 ⟨by dsimp only [room_1]; omega, by dsimp only [room_1]; omega⟩ (fun _ H locs hW => ?_)
    have hW := wd_comm hW
    refine lv_aload_n hx hb dL_law_1064 rfl (lv_at hl 2 rfl) ?_
    refine lv_aload_n hx hb dL_law_1065 rfl (lv_at hl 0 rfl) ?_
    refine lv_iload_n hx hb dL_law_1066 rfl (lv_at hl 3 rfl) ?_
    refine lv_iconst (v := 1) hx hb dL_law_1067 (by decide) ?_
    refine lv_iadd hx hb dL_law_1068 ?_
    refine va_sld hx hb hX hbl hbA hW.2.2 (si1 hi hL) dL_law_1069 ?_
    refine lv_aload_n hx hb dL_law_1070 rfl (lv_at hl 0 rfl) ?_
    refine lv_iload_n hx hb dL_law_1071 rfl (lv_at hl 3 rfl) ?_
    refine lv_iconst (v := 2) hx hb dL_law_1072 (by decide) ?_
    refine lv_iadd hx hb dL_law_1073 ?_
    refine va_sld hx hb hX hbl hbA hW.2.2 (si2 hi hL) dL_law_1074 ?_
    refine lv_aload_n hx hb dL_law_1075 rfl (lv_at hl 0 rfl) ?_
    refine lv_iload_n hx hb dL_law_1076 rfl (lv_at hl 3 rfl) ?_
    refine lv_iconst (v := 3) hx hb dL_law_1077 (by decide) ?_
    refine lv_iadd hx hb dL_law_1078 ?_
    refine va_sld hx hb hX hbl hbA hW.2.2 (si3 hi hL) dL_law_1079 ?_
    refine lv_if_eq (tgt := 1087) hx hb dL_law_1080 (by decide) (fun z => absurd z q0) (fun _ => ?_)
    refine lv_iconst (v := 1) hx hb dL_law_1083 (by decide) ?_
    refine lv_goto (tgt := 1088) hx hb dL_law_1084 (by decide) ?_
    refine cVf_i (ci := 12) (q0 := 0) (rest := [.int r]) hF hW mw_L_106 (c_X12_visit l K a2 h2) ⟨by decide, by decide⟩ rfl rfl (pM_0 K a2 _) rfl hl.1 rfl (Nat.le_of_ble_eq_true rfl) dL_law_1088 ⟨by dsimp only [room_1]; omega, by dsimp only [room_1]; omega⟩ (fun _ H locs hW => ?_)
    have hW := wd_comm hW
    refine lv_icmp_eq (tgt := 1930) hx hb dL_law_1091 (by decide) (fun _ => ?_) (fun z => absurd rfl z)
    refine W.widen (k := cells + 3) (n := slots + 1358) (by dsimp only; omega) (by dsimp only; omega) ?_
    exact kk _ _ d _ _ hRel1 hW
set_option maxRecDepth 100000 in
set_option maxHeartbeats 1000000 in
theorem lc_21 (hF : Fx p s m args c code 4 RL K A) (hX : va_X b L xs s s.heap) (hbl : b < s.heap.size) (hbA : ¬ A b) (hi : i + 6 ≤ L) (hL : L ≤ 3072) (hsim : Sim_has Rel) (hRel : Rel Mc Mm) (hW : Wd K A s (wC K a d Mc ++ wM K a2 Mm) H locs) (hl : lv_has ls 4 [(0, .ref b), (1, .ref (a 0)), (2, .ref (a2 0)), (3, .int (nI i))]) (hce : cells + 3 ≤ 600000) (hsl : slots + 1358 ≤ 7302250)
    (kk : ∀ (Mc1 Mm1 : Mem) (d : Nat → Nat) (H : Heap) (locs : List Loc), Rel Mc1 Mm1 → Wd K A s (wC K a d Mc1 ++ wM K a2 Mm1) H locs → W p l e room_1 s m args below meth c H locs (cells + 3) (slots + 1358) Q (F0 m 1930 ls [])) : W p l e room_1 s m args below meth c H locs cells slots Q (F0 m 1096 ls []) := by
  have hx := hF.1
  have hb := hF.2.1
  refine lv_aload_n hx hb dL_law_1096 rfl (lv_at hl 1 rfl) ?_
  refine lv_aload_n hx hb dL_law_1097 rfl (lv_at hl 0 rfl) ?_
  refine lv_iload_n hx hb dL_law_1098 rfl (lv_at hl 3 rfl) ?_
  refine lv_iconst (v := 1) hx hb dL_law_1099 (by decide) ?_
  refine lv_iadd hx hb dL_law_1100 ?_
  refine va_sld hx hb hX hbl hbA hW.2.2 (si1 hi hL) dL_law_1101 ?_
  refine lv_aload_n hx hb dL_law_1102 rfl (lv_at hl 0 rfl) ?_
  refine lv_iload_n hx hb dL_law_1103 rfl (lv_at hl 3 rfl) ?_
  refine lv_iconst (v := 2) hx hb dL_law_1104 (by decide) ?_
  refine lv_iadd hx hb dL_law_1105 ?_
  refine va_sld hx hb hX hbl hbA hW.2.2 (si2 hi hL) dL_law_1106 ?_
  refine lv_aload_n hx hb dL_law_1107 rfl (lv_at hl 0 rfl) ?_
  refine lv_iload_n hx hb dL_law_1108 rfl (lv_at hl 3 rfl) ?_
  refine lv_iconst (v := 3) hx hb dL_law_1109 (by decide) ?_
  refine lv_iadd hx hb dL_law_1110 ?_
  refine va_sld hx hb hX hbl hbA hW.2.2 (si3 hi hL) dL_law_1111 ?_
  refine lv_aload_n hx hb dL_law_1112 rfl (lv_at hl 0 rfl) ?_
  refine lv_iload_n hx hb dL_law_1113 rfl (lv_at hl 3 rfl) ?_
  refine lv_iconst (v := 4) hx hb dL_law_1114 (by decide) ?_
  refine lv_iadd hx hb dL_law_1115 ?_
  refine va_sld hx hb hX hbl hbA hW.2.2 (si4 hi hL) dL_law_1116 ?_
  refine lv_aload_n hx hb dL_law_1117 rfl (lv_at hl 0 rfl) ?_
  refine lv_iload_n hx hb dL_law_1118 rfl (lv_at hl 3 rfl) ?_
  refine lv_iconst (v := 5) hx hb dL_law_1119 (by decide) ?_
  refine lv_iadd hx hb dL_law_1120 ?_
  refine va_sld hx hb hX hbl hbA hW.2.2 (si5 hi hL) dL_law_1121 ?_
  obtain ⟨r, Mc1, Mm1, h1, h2, hRel1⟩ := hsim Mc Mm (xs (nI i + 1).toNatClampNeg) (xs (nI i + 2).toNatClampNeg) (xs (nI i + 3).toNatClampNeg) (xs (nI i + 4).toNatClampNeg) (xs (nI i + 5).toNatClampNeg) hRel
  refine cVf_i (ci := 11) (q0 := 0) (rest := []) hF hW mw_L_107 (c_X11_has l K a d h1) ⟨by decide, by decide⟩ rfl rfl (pC_0 K a d _) rfl hl.1 rfl (Nat.le_of_ble_eq_true rfl) dL_law_1122 ⟨by dsimp only [room_1]; omega, by dsimp only [room_1]; omega⟩ (fun _ H locs hW => ?_)
  have hW := wd_comm hW
  refine lv_aload_n hx hb dL_law_1125 rfl (lv_at hl 2 rfl) ?_
  refine lv_aload_n hx hb dL_law_1126 rfl (lv_at hl 0 rfl) ?_
  refine lv_iload_n hx hb dL_law_1127 rfl (lv_at hl 3 rfl) ?_
  refine lv_iconst (v := 1) hx hb dL_law_1128 (by decide) ?_
  refine lv_iadd hx hb dL_law_1129 ?_
  refine va_sld hx hb hX hbl hbA hW.2.2 (si1 hi hL) dL_law_1130 ?_
  refine lv_aload_n hx hb dL_law_1131 rfl (lv_at hl 0 rfl) ?_
  refine lv_iload_n hx hb dL_law_1132 rfl (lv_at hl 3 rfl) ?_
  refine lv_iconst (v := 2) hx hb dL_law_1133 (by decide) ?_
  refine lv_iadd hx hb dL_law_1134 ?_
  refine va_sld hx hb hX hbl hbA hW.2.2 (si2 hi hL) dL_law_1135 ?_
  refine lv_aload_n hx hb dL_law_1136 rfl (lv_at hl 0 rfl) ?_
  refine lv_iload_n hx hb dL_law_1137 rfl (lv_at hl 3 rfl) ?_
  refine lv_iconst (v := 3) hx hb dL_law_1138 (by decide) ?_
  refine lv_iadd hx hb dL_law_1139 ?_
  refine va_sld hx hb hX hbl hbA hW.2.2 (si3 hi hL) dL_law_1140 ?_
  refine lv_aload_n hx hb dL_law_1141 rfl (lv_at hl 0 rfl) ?_
  refine lv_iload_n hx hb dL_law_1142 rfl (lv_at hl 3 rfl) ?_
  refine lv_iconst (v := 4) hx hb dL_law_1143 (by decide) ?_
  refine lv_iadd hx hb dL_law_1144 ?_
  refine va_sld hx hb hX hbl hbA hW.2.2 (si4 hi hL) dL_law_1145 ?_
  refine lv_aload_n hx hb dL_law_1146 rfl (lv_at hl 0 rfl) ?_
  refine lv_iload_n hx hb dL_law_1147 rfl (lv_at hl 3 rfl) ?_
  refine lv_iconst (v := 5) hx hb dL_law_1148 (by decide) ?_
  refine lv_iadd hx hb dL_law_1149 ?_
  refine va_sld hx hb hX hbl hbA hW.2.2 (si5 hi hL) dL_law_1150 ?_
  refine cVf_i (ci := 12) (q0 := 0) (rest := [.int r]) hF hW mw_L_110 (c_X12_has l K a2 h2) ⟨by decide, by decide⟩ rfl rfl (pM_0 K a2 _) rfl hl.1 rfl (Nat.le_of_ble_eq_true rfl) dL_law_1151 ⟨by dsimp only [room_1]; omega, by dsimp only [room_1]; omega⟩ (fun _ H locs hW => ?_)
  have hW := wd_comm hW
  refine lv_icmp_eq (tgt := 1930) hx hb dL_law_1154 (by decide) (fun _ => ?_) (fun z => absurd rfl z)
  refine W.widen (k := cells + 3) (n := slots + 1358) (by dsimp only; omega) (by dsimp only; omega) ?_
  exact kk _ _ d _ _ hRel1 hW
set_option maxRecDepth 100000 in
set_option maxHeartbeats 1000000 in
theorem lc_22 (hF : Fx p s m args c code 4 RL K A) (hX : va_X b L xs s s.heap) (hbl : b < s.heap.size) (hbA : ¬ A b) (hi : i + 6 ≤ L) (hL : L ≤ 3072) (hsim : Sim_points Rel) (hRel : Rel Mc Mm) (hW : Wd K A s (wC K a d Mc ++ wM K a2 Mm) H locs) (hl : lv_has ls 4 [(0, .ref b), (1, .ref (a 0)), (2, .ref (a2 0)), (3, .int (nI i))]) (hce : cells + 3 ≤ 600000) (hsl : slots + 1358 ≤ 7302250)
    (kk : ∀ (Mc1 Mm1 : Mem) (d : Nat → Nat) (H : Heap) (locs : List Loc), Rel Mc1 Mm1 → Wd K A s (wC K a d Mc1 ++ wM K a2 Mm1) H locs → W p l e room_1 s m args below meth c H locs (cells + 3) (slots + 1358) Q (F0 m 1930 ls [])) : W p l e room_1 s m args below meth c H locs cells slots Q (F0 m 1159 ls []) := by
  have hx := hF.1
  have hb := hF.2.1
  refine lv_aload_n hx hb dL_law_1159 rfl (lv_at hl 1 rfl) ?_
  refine lv_aload_n hx hb dL_law_1160 rfl (lv_at hl 0 rfl) ?_
  refine lv_iload_n hx hb dL_law_1161 rfl (lv_at hl 3 rfl) ?_
  refine lv_iconst (v := 1) hx hb dL_law_1162 (by decide) ?_
  refine lv_iadd hx hb dL_law_1163 ?_
  refine va_sld hx hb hX hbl hbA hW.2.2 (si1 hi hL) dL_law_1164 ?_
  obtain ⟨r, Mc1, Mm1, h1, h2, hRel1⟩ := hsim Mc Mm (xs (nI i + 1).toNatClampNeg) hRel
  refine cVf_i (ci := 11) (q0 := 0) (rest := []) hF hW mw_L_111 (c_X11_points l K a d h1) ⟨by decide, by decide⟩ rfl rfl (pC_0 K a d _) rfl hl.1 rfl (Nat.le_of_ble_eq_true rfl) dL_law_1165 ⟨by dsimp only [room_1]; omega, by dsimp only [room_1]; omega⟩ (fun _ H locs hW => ?_)
  have hW := wd_comm hW
  refine lv_aload_n hx hb dL_law_1168 rfl (lv_at hl 2 rfl) ?_
  refine lv_aload_n hx hb dL_law_1169 rfl (lv_at hl 0 rfl) ?_
  refine lv_iload_n hx hb dL_law_1170 rfl (lv_at hl 3 rfl) ?_
  refine lv_iconst (v := 1) hx hb dL_law_1171 (by decide) ?_
  refine lv_iadd hx hb dL_law_1172 ?_
  refine va_sld hx hb hX hbl hbA hW.2.2 (si1 hi hL) dL_law_1173 ?_
  refine cVf_i (ci := 12) (q0 := 0) (rest := [.int r]) hF hW mw_L_115 (c_X12_points l K a2 h2) ⟨by decide, by decide⟩ rfl rfl (pM_0 K a2 _) rfl hl.1 rfl (Nat.le_of_ble_eq_true rfl) dL_law_1174 ⟨by dsimp only [room_1]; omega, by dsimp only [room_1]; omega⟩ (fun _ H locs hW => ?_)
  have hW := wd_comm hW
  refine lv_icmp_eq (tgt := 1930) hx hb dL_law_1177 (by decide) (fun _ => ?_) (fun z => absurd rfl z)
  refine W.widen (k := cells + 3) (n := slots + 1358) (by dsimp only; omega) (by dsimp only; omega) ?_
  exact kk _ _ d _ _ hRel1 hW
set_option maxRecDepth 100000 in
set_option maxHeartbeats 1000000 in
theorem lc_23 (hF : Fx p s m args c code 4 RL K A) (hX : va_X b L xs s s.heap) (hbl : b < s.heap.size) (hbA : ¬ A b) (hi : i + 6 ≤ L) (hL : L ≤ 3072) (hsim : Sim_needs Rel) (hRel : Rel Mc Mm) (hW : Wd K A s (wC K a d Mc ++ wM K a2 Mm) H locs) (hl : lv_has ls 4 [(0, .ref b), (1, .ref (a 0)), (2, .ref (a2 0)), (3, .int (nI i))]) (hce : cells + 3 ≤ 600000) (hsl : slots + 1358 ≤ 7302250)
    (kk : ∀ (Mc1 Mm1 : Mem) (d : Nat → Nat) (H : Heap) (locs : List Loc), Rel Mc1 Mm1 → Wd K A s (wC K a d Mc1 ++ wM K a2 Mm1) H locs → W p l e room_1 s m args below meth c H locs (cells + 3) (slots + 1358) Q (F0 m 1930 ls [])) : W p l e room_1 s m args below meth c H locs cells slots Q (F0 m 1182 ls []) := by
  have hx := hF.1
  have hb := hF.2.1
  refine lv_aload_n hx hb dL_law_1182 rfl (lv_at hl 1 rfl) ?_
  refine lv_aload_n hx hb dL_law_1183 rfl (lv_at hl 0 rfl) ?_
  refine lv_iload_n hx hb dL_law_1184 rfl (lv_at hl 3 rfl) ?_
  refine lv_iconst (v := 1) hx hb dL_law_1185 (by decide) ?_
  refine lv_iadd hx hb dL_law_1186 ?_
  refine va_sld hx hb hX hbl hbA hW.2.2 (si1 hi hL) dL_law_1187 ?_
  refine lv_aload_n hx hb dL_law_1188 rfl (lv_at hl 0 rfl) ?_
  refine lv_iload_n hx hb dL_law_1189 rfl (lv_at hl 3 rfl) ?_
  refine lv_iconst (v := 2) hx hb dL_law_1190 (by decide) ?_
  refine lv_iadd hx hb dL_law_1191 ?_
  refine va_sld hx hb hX hbl hbA hW.2.2 (si2 hi hL) dL_law_1192 ?_
  refine lv_aload_n hx hb dL_law_1193 rfl (lv_at hl 0 rfl) ?_
  refine lv_iload_n hx hb dL_law_1194 rfl (lv_at hl 3 rfl) ?_
  refine lv_iconst (v := 3) hx hb dL_law_1195 (by decide) ?_
  refine lv_iadd hx hb dL_law_1196 ?_
  refine va_sld hx hb hX hbl hbA hW.2.2 (si3 hi hL) dL_law_1197 ?_
  obtain ⟨r, Mc1, Mm1, h1, h2, hRel1⟩ := hsim Mc Mm (xs (nI i + 1).toNatClampNeg) (xs (nI i + 2).toNatClampNeg) (xs (nI i + 3).toNatClampNeg) hRel
  refine cVf_i (ci := 11) (q0 := 0) (rest := []) hF hW mw_L_116 (c_X11_needs l K a d h1) ⟨by decide, by decide⟩ rfl rfl (pC_0 K a d _) rfl hl.1 rfl (Nat.le_of_ble_eq_true rfl) dL_law_1198 ⟨by dsimp only [room_1]; omega, by dsimp only [room_1]; omega⟩ (fun _ H locs hW => ?_)
  have hW := wd_comm hW
  refine lv_aload_n hx hb dL_law_1201 rfl (lv_at hl 2 rfl) ?_
  refine lv_aload_n hx hb dL_law_1202 rfl (lv_at hl 0 rfl) ?_
  refine lv_iload_n hx hb dL_law_1203 rfl (lv_at hl 3 rfl) ?_
  refine lv_iconst (v := 1) hx hb dL_law_1204 (by decide) ?_
  refine lv_iadd hx hb dL_law_1205 ?_
  refine va_sld hx hb hX hbl hbA hW.2.2 (si1 hi hL) dL_law_1206 ?_
  refine lv_aload_n hx hb dL_law_1207 rfl (lv_at hl 0 rfl) ?_
  refine lv_iload_n hx hb dL_law_1208 rfl (lv_at hl 3 rfl) ?_
  refine lv_iconst (v := 2) hx hb dL_law_1209 (by decide) ?_
  refine lv_iadd hx hb dL_law_1210 ?_
  refine va_sld hx hb hX hbl hbA hW.2.2 (si2 hi hL) dL_law_1211 ?_
  refine lv_aload_n hx hb dL_law_1212 rfl (lv_at hl 0 rfl) ?_
  refine lv_iload_n hx hb dL_law_1213 rfl (lv_at hl 3 rfl) ?_
  refine lv_iconst (v := 3) hx hb dL_law_1214 (by decide) ?_
  refine lv_iadd hx hb dL_law_1215 ?_
  refine va_sld hx hb hX hbl hbA hW.2.2 (si3 hi hL) dL_law_1216 ?_
  refine cVf_i (ci := 12) (q0 := 0) (rest := [.int r]) hF hW mw_L_119 (c_X12_needs l K a2 h2) ⟨by decide, by decide⟩ rfl rfl (pM_0 K a2 _) rfl hl.1 rfl (Nat.le_of_ble_eq_true rfl) dL_law_1217 ⟨by dsimp only [room_1]; omega, by dsimp only [room_1]; omega⟩ (fun _ H locs hW => ?_)
  have hW := wd_comm hW
  refine lv_icmp_eq (tgt := 1930) hx hb dL_law_1220 (by decide) (fun _ => ?_) (fun z => absurd rfl z)
  refine W.widen (k := cells + 3) (n := slots + 1358) (by dsimp only; omega) (by dsimp only; omega) ?_
  exact kk _ _ d _ _ hRel1 hW
set_option maxRecDepth 100000 in
set_option maxHeartbeats 1000000 in
theorem lc_24 (hF : Fx p s m args c code 4 RL K A) (hX : va_X b L xs s s.heap) (hbl : b < s.heap.size) (hbA : ¬ A b) (hi : i + 6 ≤ L) (hL : L ≤ 3072) (hsim : Sim_carried Rel) (hRel : Rel Mc Mm) (hW : Wd K A s (wC K a d Mc ++ wM K a2 Mm) H locs) (hl : lv_has ls 4 [(0, .ref b), (1, .ref (a 0)), (2, .ref (a2 0)), (3, .int (nI i))]) (hce : cells + 3 ≤ 600000) (hsl : slots + 1358 ≤ 7302250)
    (kk : ∀ (Mc1 Mm1 : Mem) (d : Nat → Nat) (H : Heap) (locs : List Loc), Rel Mc1 Mm1 → Wd K A s (wC K a d Mc1 ++ wM K a2 Mm1) H locs → W p l e room_1 s m args below meth c H locs (cells + 3) (slots + 1358) Q (F0 m 1930 ls [])) : W p l e room_1 s m args below meth c H locs cells slots Q (F0 m 1225 ls []) := by
  have hx := hF.1
  have hb := hF.2.1
  refine lv_aload_n hx hb dL_law_1225 rfl (lv_at hl 1 rfl) ?_
  refine lv_aload_n hx hb dL_law_1226 rfl (lv_at hl 0 rfl) ?_
  refine lv_iload_n hx hb dL_law_1227 rfl (lv_at hl 3 rfl) ?_
  refine lv_iconst (v := 1) hx hb dL_law_1228 (by decide) ?_
  refine lv_iadd hx hb dL_law_1229 ?_
  refine va_sld hx hb hX hbl hbA hW.2.2 (si1 hi hL) dL_law_1230 ?_
  obtain ⟨r, Mc1, Mm1, h1, h2, hRel1⟩ := hsim Mc Mm (xs (nI i + 1).toNatClampNeg) hRel
  refine cVf_i (ci := 11) (q0 := 0) (rest := []) hF hW mw_L_120 (c_X11_carried l K a d h1) ⟨by decide, by decide⟩ rfl rfl (pC_0 K a d _) rfl hl.1 rfl (Nat.le_of_ble_eq_true rfl) dL_law_1231 ⟨by dsimp only [room_1]; omega, by dsimp only [room_1]; omega⟩ (fun _ H locs hW => ?_)
  have hW := wd_comm hW
  refine lv_aload_n hx hb dL_law_1234 rfl (lv_at hl 2 rfl) ?_
  refine lv_aload_n hx hb dL_law_1235 rfl (lv_at hl 0 rfl) ?_
  refine lv_iload_n hx hb dL_law_1236 rfl (lv_at hl 3 rfl) ?_
  refine lv_iconst (v := 1) hx hb dL_law_1237 (by decide) ?_
  refine lv_iadd hx hb dL_law_1238 ?_
  refine va_sld hx hb hX hbl hbA hW.2.2 (si1 hi hL) dL_law_1239 ?_
  refine cVf_i (ci := 12) (q0 := 0) (rest := [.int r]) hF hW mw_L_123 (c_X12_carried l K a2 h2) ⟨by decide, by decide⟩ rfl rfl (pM_0 K a2 _) rfl hl.1 rfl (Nat.le_of_ble_eq_true rfl) dL_law_1240 ⟨by dsimp only [room_1]; omega, by dsimp only [room_1]; omega⟩ (fun _ H locs hW => ?_)
  have hW := wd_comm hW
  refine lv_icmp_eq (tgt := 1930) hx hb dL_law_1243 (by decide) (fun _ => ?_) (fun z => absurd rfl z)
  refine W.widen (k := cells + 3) (n := slots + 1358) (by dsimp only; omega) (by dsimp only; omega) ?_
  exact kk _ _ d _ _ hRel1 hW
set_option maxRecDepth 100000 in
set_option maxHeartbeats 1000000 in
theorem lc_25 (hF : Fx p s m args c code 4 RL K A) (hX : va_X b L xs s s.heap) (hbl : b < s.heap.size) (hbA : ¬ A b) (hi : i + 6 ≤ L) (hL : L ≤ 3072) (hsim : Sim_distance Rel) (hRel : Rel Mc Mm) (hW : Wd K A s (wC K a d Mc ++ wM K a2 Mm) H locs) (hl : lv_has ls 4 [(0, .ref b), (1, .ref (a 0)), (2, .ref (a2 0)), (3, .int (nI i))]) (hce : cells + 3 ≤ 600000) (hsl : slots + 1358 ≤ 7302250)
    (kk : ∀ (Mc1 Mm1 : Mem) (d : Nat → Nat) (H : Heap) (locs : List Loc), Rel Mc1 Mm1 → Wd K A s (wC K a d Mc1 ++ wM K a2 Mm1) H locs → W p l e room_1 s m args below meth c H locs (cells + 3) (slots + 1358) Q (F0 m 1930 ls [])) : W p l e room_1 s m args below meth c H locs cells slots Q (F0 m 1248 ls []) := by
  have hx := hF.1
  have hb := hF.2.1
  refine lv_aload_n hx hb dL_law_1248 rfl (lv_at hl 1 rfl) ?_
  refine lv_aload_n hx hb dL_law_1249 rfl (lv_at hl 0 rfl) ?_
  refine lv_iload_n hx hb dL_law_1250 rfl (lv_at hl 3 rfl) ?_
  refine lv_iconst (v := 1) hx hb dL_law_1251 (by decide) ?_
  refine lv_iadd hx hb dL_law_1252 ?_
  refine va_sld hx hb hX hbl hbA hW.2.2 (si1 hi hL) dL_law_1253 ?_
  refine lv_aload_n hx hb dL_law_1254 rfl (lv_at hl 0 rfl) ?_
  refine lv_iload_n hx hb dL_law_1255 rfl (lv_at hl 3 rfl) ?_
  refine lv_iconst (v := 2) hx hb dL_law_1256 (by decide) ?_
  refine lv_iadd hx hb dL_law_1257 ?_
  refine va_sld hx hb hX hbl hbA hW.2.2 (si2 hi hL) dL_law_1258 ?_
  refine lv_aload_n hx hb dL_law_1259 rfl (lv_at hl 0 rfl) ?_
  refine lv_iload_n hx hb dL_law_1260 rfl (lv_at hl 3 rfl) ?_
  refine lv_iconst (v := 3) hx hb dL_law_1261 (by decide) ?_
  refine lv_iadd hx hb dL_law_1262 ?_
  refine va_sld hx hb hX hbl hbA hW.2.2 (si3 hi hL) dL_law_1263 ?_
  refine lv_aload_n hx hb dL_law_1264 rfl (lv_at hl 0 rfl) ?_
  refine lv_iload_n hx hb dL_law_1265 rfl (lv_at hl 3 rfl) ?_
  refine lv_iconst (v := 4) hx hb dL_law_1266 (by decide) ?_
  refine lv_iadd hx hb dL_law_1267 ?_
  refine va_sld hx hb hX hbl hbA hW.2.2 (si4 hi hL) dL_law_1268 ?_
  refine lv_if_eq (tgt := 1276) hx hb dL_law_1269 (by decide) (fun q0 => ?_) (fun q0 => ?_)
  · refine lv_iconst (v := 0) hx hb dL_law_1276 (by decide) ?_
    obtain ⟨r, Mc1, Mm1, h1, h2, hRel1⟩ := hsim Mc Mm (xs (nI i + 1).toNatClampNeg) (xs (nI i + 2).toNatClampNeg) (xs (nI i + 3).toNatClampNeg) false hRel
    refine cVf_i (ci := 11) (q0 := 0) (rest := []) hF hW mw_L_124 (c_X11_distance l K a d h1) ⟨by decide, by decide⟩ rfl rfl (pC_0 K a d _) rfl hl.1 rfl (Nat.le_of_ble_eq_true rfl) dL_law_1277 ⟨by dsimp only [room_1]; omega, by dsimp only [room_1]; omega⟩ (fun _ H locs hW => ?_)
    have hW := wd_comm hW
    refine lv_aload_n hx hb dL_law_1280 rfl (lv_at hl 2 rfl) ?_
    refine lv_aload_n hx hb dL_law_1281 rfl (lv_at hl 0 rfl) ?_
    refine lv_iload_n hx hb dL_law_1282 rfl (lv_at hl 3 rfl) ?_
    refine lv_iconst (v := 1) hx hb dL_law_1283 (by decide) ?_
    refine lv_iadd hx hb dL_law_1284 ?_
    refine va_sld hx hb hX hbl hbA hW.2.2 (si1 hi hL) dL_law_1285 ?_
    refine lv_aload_n hx hb dL_law_1286 rfl (lv_at hl 0 rfl) ?_
    refine lv_iload_n hx hb dL_law_1287 rfl (lv_at hl 3 rfl) ?_
    refine lv_iconst (v := 2) hx hb dL_law_1288 (by decide) ?_
    refine lv_iadd hx hb dL_law_1289 ?_
    refine va_sld hx hb hX hbl hbA hW.2.2 (si2 hi hL) dL_law_1290 ?_
    refine lv_aload_n hx hb dL_law_1291 rfl (lv_at hl 0 rfl) ?_
    refine lv_iload_n hx hb dL_law_1292 rfl (lv_at hl 3 rfl) ?_
    refine lv_iconst (v := 3) hx hb dL_law_1293 (by decide) ?_
    refine lv_iadd hx hb dL_law_1294 ?_
    refine va_sld hx hb hX hbl hbA hW.2.2 (si3 hi hL) dL_law_1295 ?_
    refine lv_aload_n hx hb dL_law_1296 rfl (lv_at hl 0 rfl) ?_
    refine lv_iload_n hx hb dL_law_1297 rfl (lv_at hl 3 rfl) ?_
    refine lv_iconst (v := 4) hx hb dL_law_1298 (by decide) ?_
    refine lv_iadd hx hb dL_law_1299 ?_
    refine va_sld hx hb hX hbl hbA hW.2.2 (si4 hi hL) dL_law_1300 ?_
    refine lv_if_eq (tgt := 1308) hx hb dL_law_1301 (by decide) (fun _ => ?_) (fun z => absurd q0 z)
    refine lv_iconst (v := 0) hx hb dL_law_1308 (by decide) ?_
    refine cVf_i (ci := 12) (q0 := 0) (rest := [.int r]) hF hW mw_L_127 (c_X12_distance l K a2 h2) ⟨by decide, by decide⟩ rfl rfl (pM_0 K a2 _) rfl hl.1 rfl (Nat.le_of_ble_eq_true rfl) dL_law_1309 ⟨by dsimp only [room_1]; omega, by dsimp only [room_1]; omega⟩ (fun _ H locs hW => ?_)
    have hW := wd_comm hW
    refine lv_icmp_eq (tgt := 1930) hx hb dL_law_1312 (by decide) (fun _ => ?_) (fun z => absurd rfl z)
    refine W.widen (k := cells + 3) (n := slots + 1358) (by dsimp only; omega) (by dsimp only; omega) ?_
    exact kk _ _ d _ _ hRel1 hW
  · refine lv_iconst (v := 1) hx hb dL_law_1272 (by decide) ?_
    refine lv_goto (tgt := 1277) hx hb dL_law_1273 (by decide) ?_
    obtain ⟨r, Mc1, Mm1, h1, h2, hRel1⟩ := hsim Mc Mm (xs (nI i + 1).toNatClampNeg) (xs (nI i + 2).toNatClampNeg) (xs (nI i + 3).toNatClampNeg) true hRel
    refine cVf_i (ci := 11) (q0 := 0) (rest := []) hF hW mw_L_124 (c_X11_distance l K a d h1) ⟨by decide, by decide⟩ rfl rfl (pC_0 K a d _) rfl hl.1 rfl (Nat.le_of_ble_eq_true rfl) dL_law_1277 ⟨by dsimp only [room_1]; omega, by dsimp only [room_1]; omega⟩ (fun _ H locs hW => ?_)
    have hW := wd_comm hW
    refine lv_aload_n hx hb dL_law_1280 rfl (lv_at hl 2 rfl) ?_
    refine lv_aload_n hx hb dL_law_1281 rfl (lv_at hl 0 rfl) ?_
    refine lv_iload_n hx hb dL_law_1282 rfl (lv_at hl 3 rfl) ?_
    refine lv_iconst (v := 1) hx hb dL_law_1283 (by decide) ?_
    refine lv_iadd hx hb dL_law_1284 ?_
    refine va_sld hx hb hX hbl hbA hW.2.2 (si1 hi hL) dL_law_1285 ?_
    refine lv_aload_n hx hb dL_law_1286 rfl (lv_at hl 0 rfl) ?_
    refine lv_iload_n hx hb dL_law_1287 rfl (lv_at hl 3 rfl) ?_
    refine lv_iconst (v := 2) hx hb dL_law_1288 (by decide) ?_
    refine lv_iadd hx hb dL_law_1289 ?_
    refine va_sld hx hb hX hbl hbA hW.2.2 (si2 hi hL) dL_law_1290 ?_
    refine lv_aload_n hx hb dL_law_1291 rfl (lv_at hl 0 rfl) ?_
    refine lv_iload_n hx hb dL_law_1292 rfl (lv_at hl 3 rfl) ?_
    refine lv_iconst (v := 3) hx hb dL_law_1293 (by decide) ?_
    refine lv_iadd hx hb dL_law_1294 ?_
    refine va_sld hx hb hX hbl hbA hW.2.2 (si3 hi hL) dL_law_1295 ?_
    refine lv_aload_n hx hb dL_law_1296 rfl (lv_at hl 0 rfl) ?_
    refine lv_iload_n hx hb dL_law_1297 rfl (lv_at hl 3 rfl) ?_
    refine lv_iconst (v := 4) hx hb dL_law_1298 (by decide) ?_
    refine lv_iadd hx hb dL_law_1299 ?_
    refine va_sld hx hb hX hbl hbA hW.2.2 (si4 hi hL) dL_law_1300 ?_
    refine lv_if_eq (tgt := 1308) hx hb dL_law_1301 (by decide) (fun z => absurd z q0) (fun _ => ?_)
    refine lv_iconst (v := 1) hx hb dL_law_1304 (by decide) ?_
    refine lv_goto (tgt := 1309) hx hb dL_law_1305 (by decide) ?_
    refine cVf_i (ci := 12) (q0 := 0) (rest := [.int r]) hF hW mw_L_127 (c_X12_distance l K a2 h2) ⟨by decide, by decide⟩ rfl rfl (pM_0 K a2 _) rfl hl.1 rfl (Nat.le_of_ble_eq_true rfl) dL_law_1309 ⟨by dsimp only [room_1]; omega, by dsimp only [room_1]; omega⟩ (fun _ H locs hW => ?_)
    have hW := wd_comm hW
    refine lv_icmp_eq (tgt := 1930) hx hb dL_law_1312 (by decide) (fun _ => ?_) (fun z => absurd rfl z)
    refine W.widen (k := cells + 3) (n := slots + 1358) (by dsimp only; omega) (by dsimp only; omega) ?_
    exact kk _ _ d _ _ hRel1 hW
set_option maxRecDepth 100000 in
set_option maxHeartbeats 1000000 in
theorem lc_26 (hF : Fx p s m args c code 4 RL K A) (hX : va_X b L xs s s.heap) (hbl : b < s.heap.size) (hbA : ¬ A b) (hi : i + 6 ≤ L) (hL : L ≤ 3072) (hsim : Sim_free Rel) (hRel : Rel Mc Mm) (hW : Wd K A s (wC K a d Mc ++ wM K a2 Mm) H locs) (hl : lv_has ls 4 [(0, .ref b), (1, .ref (a 0)), (2, .ref (a2 0)), (3, .int (nI i))]) (hce : cells + 3 ≤ 600000) (hsl : slots + 1358 ≤ 7302250)
    (kk : ∀ (Mc1 Mm1 : Mem) (d : Nat → Nat) (H : Heap) (locs : List Loc), Rel Mc1 Mm1 → Wd K A s (wC K a d Mc1 ++ wM K a2 Mm1) H locs → W p l e room_1 s m args below meth c H locs (cells + 3) (slots + 1358) Q (F0 m 1930 ls [])) : W p l e room_1 s m args below meth c H locs cells slots Q (F0 m 1317 ls []) := by
  have hx := hF.1
  have hb := hF.2.1
  refine lv_aload_n hx hb dL_law_1317 rfl (lv_at hl 1 rfl) ?_
  refine lv_aload_n hx hb dL_law_1318 rfl (lv_at hl 0 rfl) ?_
  refine lv_iload_n hx hb dL_law_1319 rfl (lv_at hl 3 rfl) ?_
  refine lv_iconst (v := 1) hx hb dL_law_1320 (by decide) ?_
  refine lv_iadd hx hb dL_law_1321 ?_
  refine va_sld hx hb hX hbl hbA hW.2.2 (si1 hi hL) dL_law_1322 ?_
  obtain ⟨r, Mc1, Mm1, h1, h2, hRel1⟩ := hsim Mc Mm (xs (nI i + 1).toNatClampNeg) hRel
  refine cVf_i (ci := 11) (q0 := 0) (rest := []) hF hW mw_L_128 (c_X11_free l K a d h1) ⟨by decide, by decide⟩ rfl rfl (pC_0 K a d _) rfl hl.1 rfl (Nat.le_of_ble_eq_true rfl) dL_law_1323 ⟨by dsimp only [room_1]; omega, by dsimp only [room_1]; omega⟩ (fun _ H locs hW => ?_)
  have hW := wd_comm hW
  refine lv_aload_n hx hb dL_law_1326 rfl (lv_at hl 2 rfl) ?_
  refine lv_aload_n hx hb dL_law_1327 rfl (lv_at hl 0 rfl) ?_
  refine lv_iload_n hx hb dL_law_1328 rfl (lv_at hl 3 rfl) ?_
  refine lv_iconst (v := 1) hx hb dL_law_1329 (by decide) ?_
  refine lv_iadd hx hb dL_law_1330 ?_
  refine va_sld hx hb hX hbl hbA hW.2.2 (si1 hi hL) dL_law_1331 ?_
  refine cVf_i (ci := 12) (q0 := 0) (rest := [.int r]) hF hW mw_L_131 (c_X12_free l K a2 h2) ⟨by decide, by decide⟩ rfl rfl (pM_0 K a2 _) rfl hl.1 rfl (Nat.le_of_ble_eq_true rfl) dL_law_1332 ⟨by dsimp only [room_1]; omega, by dsimp only [room_1]; omega⟩ (fun _ H locs hW => ?_)
  have hW := wd_comm hW
  refine lv_icmp_eq (tgt := 1930) hx hb dL_law_1335 (by decide) (fun _ => ?_) (fun z => absurd rfl z)
  refine W.widen (k := cells + 3) (n := slots + 1358) (by dsimp only; omega) (by dsimp only; omega) ?_
  exact kk _ _ d _ _ hRel1 hW
set_option maxRecDepth 100000 in
set_option maxHeartbeats 1000000 in
theorem lc_27 (hF : Fx p s m args c code 4 RL K A) (hX : va_X b L xs s s.heap) (hbl : b < s.heap.size) (hbA : ¬ A b) (hi : i + 6 ≤ L) (hL : L ≤ 3072) (hsim : Sim_swap Rel) (hRel : Rel Mc Mm) (hW : Wd K A s (wC K a d Mc ++ wM K a2 Mm) H locs) (hl : lv_has ls 4 [(0, .ref b), (1, .ref (a 0)), (2, .ref (a2 0)), (3, .int (nI i))]) (hce : cells + 3 ≤ 600000) (hsl : slots + 1358 ≤ 7302250)
    (kk : ∀ (Mc1 Mm1 : Mem) (d : Nat → Nat) (H : Heap) (locs : List Loc), Rel Mc1 Mm1 → Wd K A s (wC K a d Mc1 ++ wM K a2 Mm1) H locs → W p l e room_1 s m args below meth c H locs (cells + 3) (slots + 1358) Q (F0 m 1930 ls [])) : W p l e room_1 s m args below meth c H locs cells slots Q (F0 m 1340 ls []) := by
  have hx := hF.1
  have hb := hF.2.1
  refine lv_aload_n hx hb dL_law_1340 rfl (lv_at hl 1 rfl) ?_
  refine lv_aload_n hx hb dL_law_1341 rfl (lv_at hl 0 rfl) ?_
  refine lv_iload_n hx hb dL_law_1342 rfl (lv_at hl 3 rfl) ?_
  refine lv_iconst (v := 1) hx hb dL_law_1343 (by decide) ?_
  refine lv_iadd hx hb dL_law_1344 ?_
  refine va_sld hx hb hX hbl hbA hW.2.2 (si1 hi hL) dL_law_1345 ?_
  refine lv_aload_n hx hb dL_law_1346 rfl (lv_at hl 0 rfl) ?_
  refine lv_iload_n hx hb dL_law_1347 rfl (lv_at hl 3 rfl) ?_
  refine lv_iconst (v := 2) hx hb dL_law_1348 (by decide) ?_
  refine lv_iadd hx hb dL_law_1349 ?_
  refine va_sld hx hb hX hbl hbA hW.2.2 (si2 hi hL) dL_law_1350 ?_
  obtain ⟨r, Mc1, Mm1, h1, h2, hRel1⟩ := hsim Mc Mm (xs (nI i + 1).toNatClampNeg) (xs (nI i + 2).toNatClampNeg) hRel
  refine cVf_i (ci := 11) (q0 := 0) (rest := []) hF hW mw_L_132 (c_X11_swap l K a d h1) ⟨by decide, by decide⟩ rfl rfl (pC_0 K a d _) rfl hl.1 rfl (Nat.le_of_ble_eq_true rfl) dL_law_1351 ⟨by dsimp only [room_1]; omega, by dsimp only [room_1]; omega⟩ (fun d1 H locs hW => ?_)
  have hW := wd_comm hW
  refine lv_aload_n hx hb dL_law_1354 rfl (lv_at hl 2 rfl) ?_
  refine lv_aload_n hx hb dL_law_1355 rfl (lv_at hl 0 rfl) ?_
  refine lv_iload_n hx hb dL_law_1356 rfl (lv_at hl 3 rfl) ?_
  refine lv_iconst (v := 1) hx hb dL_law_1357 (by decide) ?_
  refine lv_iadd hx hb dL_law_1358 ?_
  refine va_sld hx hb hX hbl hbA hW.2.2 (si1 hi hL) dL_law_1359 ?_
  refine lv_aload_n hx hb dL_law_1360 rfl (lv_at hl 0 rfl) ?_
  refine lv_iload_n hx hb dL_law_1361 rfl (lv_at hl 3 rfl) ?_
  refine lv_iconst (v := 2) hx hb dL_law_1362 (by decide) ?_
  refine lv_iadd hx hb dL_law_1363 ?_
  refine va_sld hx hb hX hbl hbA hW.2.2 (si2 hi hL) dL_law_1364 ?_
  refine cVf_i (ci := 12) (q0 := 0) (rest := [.int r]) hF hW mw_L_135 (c_X12_swap l K a2 h2) ⟨by decide, by decide⟩ rfl rfl (pM_0 K a2 _) rfl hl.1 rfl (Nat.le_of_ble_eq_true rfl) dL_law_1365 ⟨by dsimp only [room_1]; omega, by dsimp only [room_1]; omega⟩ (fun _ H locs hW => ?_)
  have hW := wd_comm hW
  refine lv_icmp_eq (tgt := 1930) hx hb dL_law_1368 (by decide) (fun _ => ?_) (fun z => absurd rfl z)
  refine W.widen (k := cells + 3) (n := slots + 1358) (by dsimp only; omega) (by dsimp only; omega) ?_
  exact kk _ _ d1 _ _ hRel1 hW
set_option maxRecDepth 100000 in
set_option maxHeartbeats 1000000 in
theorem lc_28 (hF : Fx p s m args c code 4 RL K A) (hX : va_X b L xs s s.heap) (hbl : b < s.heap.size) (hbA : ¬ A b) (hi : i + 6 ≤ L) (hL : L ≤ 3072) (hsim : Sim_lean Rel) (hRel : Rel Mc Mm) (hW : Wd K A s (wC K a d Mc ++ wM K a2 Mm) H locs) (hl : lv_has ls 4 [(0, .ref b), (1, .ref (a 0)), (2, .ref (a2 0)), (3, .int (nI i))]) (hce : cells + 3 ≤ 600000) (hsl : slots + 1358 ≤ 7302250)
    (kk : ∀ (Mc1 Mm1 : Mem) (d : Nat → Nat) (H : Heap) (locs : List Loc), Rel Mc1 Mm1 → Wd K A s (wC K a d Mc1 ++ wM K a2 Mm1) H locs → W p l e room_1 s m args below meth c H locs (cells + 3) (slots + 1358) Q (F0 m 1930 ls [])) : W p l e room_1 s m args below meth c H locs cells slots Q (F0 m 1373 ls []) := by
  have hx := hF.1
  have hb := hF.2.1
  refine lv_aload_n hx hb dL_law_1373 rfl (lv_at hl 1 rfl) ?_
  refine lv_aload_n hx hb dL_law_1374 rfl (lv_at hl 0 rfl) ?_
  refine lv_iload_n hx hb dL_law_1375 rfl (lv_at hl 3 rfl) ?_
  refine lv_iconst (v := 1) hx hb dL_law_1376 (by decide) ?_
  refine lv_iadd hx hb dL_law_1377 ?_
  refine va_sld hx hb hX hbl hbA hW.2.2 (si1 hi hL) dL_law_1378 ?_
  refine lv_aload_n hx hb dL_law_1379 rfl (lv_at hl 0 rfl) ?_
  refine lv_iload_n hx hb dL_law_1380 rfl (lv_at hl 3 rfl) ?_
  refine lv_iconst (v := 2) hx hb dL_law_1381 (by decide) ?_
  refine lv_iadd hx hb dL_law_1382 ?_
  refine va_sld hx hb hX hbl hbA hW.2.2 (si2 hi hL) dL_law_1383 ?_
  refine lv_aload_n hx hb dL_law_1384 rfl (lv_at hl 0 rfl) ?_
  refine lv_iload_n hx hb dL_law_1385 rfl (lv_at hl 3 rfl) ?_
  refine lv_iconst (v := 3) hx hb dL_law_1386 (by decide) ?_
  refine lv_iadd hx hb dL_law_1387 ?_
  refine va_sld hx hb hX hbl hbA hW.2.2 (si3 hi hL) dL_law_1388 ?_
  obtain ⟨r, Mc1, Mm1, h1, h2, hRel1⟩ := hsim Mc Mm (xs (nI i + 1).toNatClampNeg) (xs (nI i + 2).toNatClampNeg) (xs (nI i + 3).toNatClampNeg) hRel
  refine cVf_i (ci := 11) (q0 := 0) (rest := []) hF hW mw_L_136 (c_X11_lean l K a d h1) ⟨by decide, by decide⟩ rfl rfl (pC_0 K a d _) rfl hl.1 rfl (Nat.le_of_ble_eq_true rfl) dL_law_1389 ⟨by dsimp only [room_1]; omega, by dsimp only [room_1]; omega⟩ (fun d1 H locs hW => ?_)
  have hW := wd_comm hW
  refine lv_aload_n hx hb dL_law_1392 rfl (lv_at hl 2 rfl) ?_
  refine lv_aload_n hx hb dL_law_1393 rfl (lv_at hl 0 rfl) ?_
  refine lv_iload_n hx hb dL_law_1394 rfl (lv_at hl 3 rfl) ?_
  refine lv_iconst (v := 1) hx hb dL_law_1395 (by decide) ?_
  refine lv_iadd hx hb dL_law_1396 ?_
  refine va_sld hx hb hX hbl hbA hW.2.2 (si1 hi hL) dL_law_1397 ?_
  refine lv_aload_n hx hb dL_law_1398 rfl (lv_at hl 0 rfl) ?_
  refine lv_iload_n hx hb dL_law_1399 rfl (lv_at hl 3 rfl) ?_
  refine lv_iconst (v := 2) hx hb dL_law_1400 (by decide) ?_
  refine lv_iadd hx hb dL_law_1401 ?_
  refine va_sld hx hb hX hbl hbA hW.2.2 (si2 hi hL) dL_law_1402 ?_
  refine lv_aload_n hx hb dL_law_1403 rfl (lv_at hl 0 rfl) ?_
  refine lv_iload_n hx hb dL_law_1404 rfl (lv_at hl 3 rfl) ?_
  refine lv_iconst (v := 3) hx hb dL_law_1405 (by decide) ?_
  refine lv_iadd hx hb dL_law_1406 ?_
  refine va_sld hx hb hX hbl hbA hW.2.2 (si3 hi hL) dL_law_1407 ?_
  refine cVf_i (ci := 12) (q0 := 0) (rest := [.int r]) hF hW mw_L_139 (c_X12_lean l K a2 h2) ⟨by decide, by decide⟩ rfl rfl (pM_0 K a2 _) rfl hl.1 rfl (Nat.le_of_ble_eq_true rfl) dL_law_1408 ⟨by dsimp only [room_1]; omega, by dsimp only [room_1]; omega⟩ (fun _ H locs hW => ?_)
  have hW := wd_comm hW
  refine lv_icmp_eq (tgt := 1930) hx hb dL_law_1411 (by decide) (fun _ => ?_) (fun z => absurd rfl z)
  refine W.widen (k := cells + 3) (n := slots + 1358) (by dsimp only; omega) (by dsimp only; omega) ?_
  exact kk _ _ d1 _ _ hRel1 hW
set_option maxRecDepth 100000 in
set_option maxHeartbeats 1000000 in
theorem lc_29 (hF : Fx p s m args c code 4 RL K A) (hX : va_X b L xs s s.heap) (hbl : b < s.heap.size) (hbA : ¬ A b) (hi : i + 6 ≤ L) (hL : L ≤ 3072) (hsim : Sim_back Rel) (hRel : Rel Mc Mm) (hW : Wd K A s (wC K a d Mc ++ wM K a2 Mm) H locs) (hl : lv_has ls 4 [(0, .ref b), (1, .ref (a 0)), (2, .ref (a2 0)), (3, .int (nI i))]) (hce : cells + 3 ≤ 600000) (hsl : slots + 1358 ≤ 7302250)
    (kk : ∀ (Mc1 Mm1 : Mem) (d : Nat → Nat) (H : Heap) (locs : List Loc), Rel Mc1 Mm1 → Wd K A s (wC K a d Mc1 ++ wM K a2 Mm1) H locs → W p l e room_1 s m args below meth c H locs (cells + 3) (slots + 1358) Q (F0 m 1930 ls [])) : W p l e room_1 s m args below meth c H locs cells slots Q (F0 m 1416 ls []) := by
  have hx := hF.1
  have hb := hF.2.1
  refine lv_aload_n hx hb dL_law_1416 rfl (lv_at hl 1 rfl) ?_
  refine lv_aload_n hx hb dL_law_1417 rfl (lv_at hl 0 rfl) ?_
  refine lv_iload_n hx hb dL_law_1418 rfl (lv_at hl 3 rfl) ?_
  refine lv_iconst (v := 1) hx hb dL_law_1419 (by decide) ?_
  refine lv_iadd hx hb dL_law_1420 ?_
  refine va_sld hx hb hX hbl hbA hW.2.2 (si1 hi hL) dL_law_1421 ?_
  obtain ⟨r, Mc1, Mm1, h1, h2, hRel1⟩ := hsim Mc Mm (xs (nI i + 1).toNatClampNeg) hRel
  refine cVf_i (ci := 11) (q0 := 0) (rest := []) hF hW mw_L_140 (c_X11_back l K a d h1) ⟨by decide, by decide⟩ rfl rfl (pC_0 K a d _) rfl hl.1 rfl (Nat.le_of_ble_eq_true rfl) dL_law_1422 ⟨by dsimp only [room_1]; omega, by dsimp only [room_1]; omega⟩ (fun d1 H locs hW => ?_)
  have hW := wd_comm hW
  refine lv_aload_n hx hb dL_law_1425 rfl (lv_at hl 2 rfl) ?_
  refine lv_aload_n hx hb dL_law_1426 rfl (lv_at hl 0 rfl) ?_
  refine lv_iload_n hx hb dL_law_1427 rfl (lv_at hl 3 rfl) ?_
  refine lv_iconst (v := 1) hx hb dL_law_1428 (by decide) ?_
  refine lv_iadd hx hb dL_law_1429 ?_
  refine va_sld hx hb hX hbl hbA hW.2.2 (si1 hi hL) dL_law_1430 ?_
  refine cVf_i (ci := 12) (q0 := 0) (rest := [.int r]) hF hW mw_L_143 (c_X12_back l K a2 h2) ⟨by decide, by decide⟩ rfl rfl (pM_0 K a2 _) rfl hl.1 rfl (Nat.le_of_ble_eq_true rfl) dL_law_1431 ⟨by dsimp only [room_1]; omega, by dsimp only [room_1]; omega⟩ (fun _ H locs hW => ?_)
  have hW := wd_comm hW
  refine lv_icmp_eq (tgt := 1930) hx hb dL_law_1434 (by decide) (fun _ => ?_) (fun z => absurd rfl z)
  refine W.widen (k := cells + 3) (n := slots + 1358) (by dsimp only; omega) (by dsimp only; omega) ?_
  exact kk _ _ d1 _ _ hRel1 hW
set_option maxRecDepth 100000 in
set_option maxHeartbeats 1000000 in
theorem lc_30 (hF : Fx p s m args c code 4 RL K A) (hX : va_X b L xs s s.heap) (hbl : b < s.heap.size) (hbA : ¬ A b) (hi : i + 6 ≤ L) (hL : L ≤ 3072) (hsim : Sim_shift Rel) (hRel : Rel Mc Mm) (hW : Wd K A s (wC K a d Mc ++ wM K a2 Mm) H locs) (hl : lv_has ls 4 [(0, .ref b), (1, .ref (a 0)), (2, .ref (a2 0)), (3, .int (nI i))]) (hce : cells + 3 ≤ 600000) (hsl : slots + 1358 ≤ 7302250)
    (kk : ∀ (Mc1 Mm1 : Mem) (d : Nat → Nat) (H : Heap) (locs : List Loc), Rel Mc1 Mm1 → Wd K A s (wC K a d Mc1 ++ wM K a2 Mm1) H locs → W p l e room_1 s m args below meth c H locs (cells + 3) (slots + 1358) Q (F0 m 1930 ls [])) : W p l e room_1 s m args below meth c H locs cells slots Q (F0 m 1439 ls []) := by
  have hx := hF.1
  have hb := hF.2.1
  refine lv_aload_n hx hb dL_law_1439 rfl (lv_at hl 1 rfl) ?_
  refine lv_aload_n hx hb dL_law_1440 rfl (lv_at hl 0 rfl) ?_
  refine lv_iload_n hx hb dL_law_1441 rfl (lv_at hl 3 rfl) ?_
  refine lv_iconst (v := 1) hx hb dL_law_1442 (by decide) ?_
  refine lv_iadd hx hb dL_law_1443 ?_
  refine va_sld hx hb hX hbl hbA hW.2.2 (si1 hi hL) dL_law_1444 ?_
  refine lv_aload_n hx hb dL_law_1445 rfl (lv_at hl 0 rfl) ?_
  refine lv_iload_n hx hb dL_law_1446 rfl (lv_at hl 3 rfl) ?_
  refine lv_iconst (v := 2) hx hb dL_law_1447 (by decide) ?_
  refine lv_iadd hx hb dL_law_1448 ?_
  refine va_sld hx hb hX hbl hbA hW.2.2 (si2 hi hL) dL_law_1449 ?_
  refine lv_aload_n hx hb dL_law_1450 rfl (lv_at hl 0 rfl) ?_
  refine lv_iload_n hx hb dL_law_1451 rfl (lv_at hl 3 rfl) ?_
  refine lv_iconst (v := 3) hx hb dL_law_1452 (by decide) ?_
  refine lv_iadd hx hb dL_law_1453 ?_
  refine va_sld hx hb hX hbl hbA hW.2.2 (si3 hi hL) dL_law_1454 ?_
  obtain ⟨r, Mc1, Mm1, h1, h2, hRel1⟩ := hsim Mc Mm (xs (nI i + 1).toNatClampNeg) (xs (nI i + 2).toNatClampNeg) (xs (nI i + 3).toNatClampNeg) hRel
  refine cVf_i (ci := 11) (q0 := 0) (rest := []) hF hW mw_L_144 (c_X11_shift l K a d h1) ⟨by decide, by decide⟩ rfl rfl (pC_0 K a d _) rfl hl.1 rfl (Nat.le_of_ble_eq_true rfl) dL_law_1455 ⟨by dsimp only [room_1]; omega, by dsimp only [room_1]; omega⟩ (fun d1 H locs hW => ?_)
  have hW := wd_comm hW
  refine lv_aload_n hx hb dL_law_1458 rfl (lv_at hl 2 rfl) ?_
  refine lv_aload_n hx hb dL_law_1459 rfl (lv_at hl 0 rfl) ?_
  refine lv_iload_n hx hb dL_law_1460 rfl (lv_at hl 3 rfl) ?_
  refine lv_iconst (v := 1) hx hb dL_law_1461 (by decide) ?_
  refine lv_iadd hx hb dL_law_1462 ?_
  refine va_sld hx hb hX hbl hbA hW.2.2 (si1 hi hL) dL_law_1463 ?_
  refine lv_aload_n hx hb dL_law_1464 rfl (lv_at hl 0 rfl) ?_
  refine lv_iload_n hx hb dL_law_1465 rfl (lv_at hl 3 rfl) ?_
  refine lv_iconst (v := 2) hx hb dL_law_1466 (by decide) ?_
  refine lv_iadd hx hb dL_law_1467 ?_
  refine va_sld hx hb hX hbl hbA hW.2.2 (si2 hi hL) dL_law_1468 ?_
  refine lv_aload_n hx hb dL_law_1469 rfl (lv_at hl 0 rfl) ?_
  refine lv_iload_n hx hb dL_law_1470 rfl (lv_at hl 3 rfl) ?_
  refine lv_iconst (v := 3) hx hb dL_law_1471 (by decide) ?_
  refine lv_iadd hx hb dL_law_1472 ?_
  refine va_sld hx hb hX hbl hbA hW.2.2 (si3 hi hL) dL_law_1473 ?_
  refine cVf_i (ci := 12) (q0 := 0) (rest := [.int r]) hF hW mw_L_147 (c_X12_shift l K a2 h2) ⟨by decide, by decide⟩ rfl rfl (pM_0 K a2 _) rfl hl.1 rfl (Nat.le_of_ble_eq_true rfl) dL_law_1474 ⟨by dsimp only [room_1]; omega, by dsimp only [room_1]; omega⟩ (fun _ H locs hW => ?_)
  have hW := wd_comm hW
  refine lv_icmp_eq (tgt := 1930) hx hb dL_law_1477 (by decide) (fun _ => ?_) (fun z => absurd rfl z)
  refine W.widen (k := cells + 3) (n := slots + 1358) (by dsimp only; omega) (by dsimp only; omega) ?_
  exact kk _ _ d1 _ _ hRel1 hW
set_option maxRecDepth 100000 in
set_option maxHeartbeats 1000000 in
theorem lc_31 (hF : Fx p s m args c code 4 RL K A) (hX : va_X b L xs s s.heap) (hbl : b < s.heap.size) (hbA : ¬ A b) (hi : i + 6 ≤ L) (hL : L ≤ 3072) (hsim : Sim_tile Rel) (hRel : Rel Mc Mm) (hW : Wd K A s (wC K a d Mc ++ wM K a2 Mm) H locs) (hl : lv_has ls 4 [(0, .ref b), (1, .ref (a 0)), (2, .ref (a2 0)), (3, .int (nI i))]) (hce : cells + 3 ≤ 600000) (hsl : slots + 1358 ≤ 7302250)
    (kk : ∀ (Mc1 Mm1 : Mem) (d : Nat → Nat) (H : Heap) (locs : List Loc), Rel Mc1 Mm1 → Wd K A s (wC K a d Mc1 ++ wM K a2 Mm1) H locs → W p l e room_1 s m args below meth c H locs (cells + 3) (slots + 1358) Q (F0 m 1930 ls [])) : W p l e room_1 s m args below meth c H locs cells slots Q (F0 m 1482 ls []) := by
  have hx := hF.1
  have hb := hF.2.1
  refine lv_aload_n hx hb dL_law_1482 rfl (lv_at hl 1 rfl) ?_
  refine lv_aload_n hx hb dL_law_1483 rfl (lv_at hl 0 rfl) ?_
  refine lv_iload_n hx hb dL_law_1484 rfl (lv_at hl 3 rfl) ?_
  refine lv_iconst (v := 1) hx hb dL_law_1485 (by decide) ?_
  refine lv_iadd hx hb dL_law_1486 ?_
  refine va_sld hx hb hX hbl hbA hW.2.2 (si1 hi hL) dL_law_1487 ?_
  refine lv_aload_n hx hb dL_law_1488 rfl (lv_at hl 0 rfl) ?_
  refine lv_iload_n hx hb dL_law_1489 rfl (lv_at hl 3 rfl) ?_
  refine lv_iconst (v := 2) hx hb dL_law_1490 (by decide) ?_
  refine lv_iadd hx hb dL_law_1491 ?_
  refine va_sld hx hb hX hbl hbA hW.2.2 (si2 hi hL) dL_law_1492 ?_
  refine lv_aload_n hx hb dL_law_1493 rfl (lv_at hl 0 rfl) ?_
  refine lv_iload_n hx hb dL_law_1494 rfl (lv_at hl 3 rfl) ?_
  refine lv_iconst (v := 3) hx hb dL_law_1495 (by decide) ?_
  refine lv_iadd hx hb dL_law_1496 ?_
  refine va_sld hx hb hX hbl hbA hW.2.2 (si3 hi hL) dL_law_1497 ?_
  obtain ⟨r, Mc1, Mm1, h1, h2, hRel1⟩ := hsim Mc Mm (xs (nI i + 1).toNatClampNeg) (xs (nI i + 2).toNatClampNeg) (xs (nI i + 3).toNatClampNeg) hRel
  refine cVf_i (ci := 11) (q0 := 0) (rest := []) hF hW mw_L_148 (c_X11_tile l K a d h1) ⟨by decide, by decide⟩ rfl rfl (pC_0 K a d _) rfl hl.1 rfl (Nat.le_of_ble_eq_true rfl) dL_law_1498 ⟨by dsimp only [room_1]; omega, by dsimp only [room_1]; omega⟩ (fun d1 H locs hW => ?_)
  have hW := wd_comm hW
  refine lv_aload_n hx hb dL_law_1501 rfl (lv_at hl 2 rfl) ?_
  refine lv_aload_n hx hb dL_law_1502 rfl (lv_at hl 0 rfl) ?_
  refine lv_iload_n hx hb dL_law_1503 rfl (lv_at hl 3 rfl) ?_
  refine lv_iconst (v := 1) hx hb dL_law_1504 (by decide) ?_
  refine lv_iadd hx hb dL_law_1505 ?_
  refine va_sld hx hb hX hbl hbA hW.2.2 (si1 hi hL) dL_law_1506 ?_
  refine lv_aload_n hx hb dL_law_1507 rfl (lv_at hl 0 rfl) ?_
  refine lv_iload_n hx hb dL_law_1508 rfl (lv_at hl 3 rfl) ?_
  refine lv_iconst (v := 2) hx hb dL_law_1509 (by decide) ?_
  refine lv_iadd hx hb dL_law_1510 ?_
  refine va_sld hx hb hX hbl hbA hW.2.2 (si2 hi hL) dL_law_1511 ?_
  refine lv_aload_n hx hb dL_law_1512 rfl (lv_at hl 0 rfl) ?_
  refine lv_iload_n hx hb dL_law_1513 rfl (lv_at hl 3 rfl) ?_
  refine lv_iconst (v := 3) hx hb dL_law_1514 (by decide) ?_
  refine lv_iadd hx hb dL_law_1515 ?_
  refine va_sld hx hb hX hbl hbA hW.2.2 (si3 hi hL) dL_law_1516 ?_
  refine cVf_i (ci := 12) (q0 := 0) (rest := [.int r]) hF hW mw_L_151 (c_X12_tile l K a2 h2) ⟨by decide, by decide⟩ rfl rfl (pM_0 K a2 _) rfl hl.1 rfl (Nat.le_of_ble_eq_true rfl) dL_law_1517 ⟨by dsimp only [room_1]; omega, by dsimp only [room_1]; omega⟩ (fun _ H locs hW => ?_)
  have hW := wd_comm hW
  refine lv_icmp_eq (tgt := 1930) hx hb dL_law_1520 (by decide) (fun _ => ?_) (fun z => absurd rfl z)
  refine W.widen (k := cells + 3) (n := slots + 1358) (by dsimp only; omega) (by dsimp only; omega) ?_
  exact kk _ _ d1 _ _ hRel1 hW
set_option maxRecDepth 100000 in
set_option maxHeartbeats 1000000 in
theorem lc_32 (hF : Fx p s m args c code 4 RL K A) (hX : va_X b L xs s s.heap) (hbl : b < s.heap.size) (hbA : ¬ A b) (hi : i + 6 ≤ L) (hL : L ≤ 3072) (hsim : Sim_part Rel) (hRel : Rel Mc Mm) (hW : Wd K A s (wC K a d Mc ++ wM K a2 Mm) H locs) (hl : lv_has ls 4 [(0, .ref b), (1, .ref (a 0)), (2, .ref (a2 0)), (3, .int (nI i))]) (hce : cells + 3 ≤ 600000) (hsl : slots + 1358 ≤ 7302250)
    (kk : ∀ (Mc1 Mm1 : Mem) (d : Nat → Nat) (H : Heap) (locs : List Loc), Rel Mc1 Mm1 → Wd K A s (wC K a d Mc1 ++ wM K a2 Mm1) H locs → W p l e room_1 s m args below meth c H locs (cells + 3) (slots + 1358) Q (F0 m 1930 ls [])) : W p l e room_1 s m args below meth c H locs cells slots Q (F0 m 1525 ls []) := by
  have hx := hF.1
  have hb := hF.2.1
  refine lv_aload_n hx hb dL_law_1525 rfl (lv_at hl 1 rfl) ?_
  refine lv_aload_n hx hb dL_law_1526 rfl (lv_at hl 0 rfl) ?_
  refine lv_iload_n hx hb dL_law_1527 rfl (lv_at hl 3 rfl) ?_
  refine lv_iconst (v := 1) hx hb dL_law_1528 (by decide) ?_
  refine lv_iadd hx hb dL_law_1529 ?_
  refine va_sld hx hb hX hbl hbA hW.2.2 (si1 hi hL) dL_law_1530 ?_
  obtain ⟨r, Mc1, Mm1, h1, h2, hRel1⟩ := hsim Mc Mm (xs (nI i + 1).toNatClampNeg) hRel
  refine cVf_i (ci := 11) (q0 := 0) (rest := []) hF hW mw_L_152 (c_X11_part l K a d h1) ⟨by decide, by decide⟩ rfl rfl (pC_0 K a d _) rfl hl.1 rfl (Nat.le_of_ble_eq_true rfl) dL_law_1531 ⟨by dsimp only [room_1]; omega, by dsimp only [room_1]; omega⟩ (fun d1 H locs hW => ?_)
  have hW := wd_comm hW
  refine lv_aload_n hx hb dL_law_1534 rfl (lv_at hl 2 rfl) ?_
  refine lv_aload_n hx hb dL_law_1535 rfl (lv_at hl 0 rfl) ?_
  refine lv_iload_n hx hb dL_law_1536 rfl (lv_at hl 3 rfl) ?_
  refine lv_iconst (v := 1) hx hb dL_law_1537 (by decide) ?_
  refine lv_iadd hx hb dL_law_1538 ?_
  refine va_sld hx hb hX hbl hbA hW.2.2 (si1 hi hL) dL_law_1539 ?_
  refine cVf_i (ci := 12) (q0 := 0) (rest := [.int r]) hF hW mw_L_155 (c_X12_part l K a2 h2) ⟨by decide, by decide⟩ rfl rfl (pM_0 K a2 _) rfl hl.1 rfl (Nat.le_of_ble_eq_true rfl) dL_law_1540 ⟨by dsimp only [room_1]; omega, by dsimp only [room_1]; omega⟩ (fun _ H locs hW => ?_)
  have hW := wd_comm hW
  refine lv_icmp_eq (tgt := 1930) hx hb dL_law_1543 (by decide) (fun _ => ?_) (fun z => absurd rfl z)
  refine W.widen (k := cells + 3) (n := slots + 1358) (by dsimp only; omega) (by dsimp only; omega) ?_
  exact kk _ _ d1 _ _ hRel1 hW
set_option maxRecDepth 100000 in
set_option maxHeartbeats 1000000 in
theorem lc_33 (hF : Fx p s m args c code 4 RL K A) (hX : va_X b L xs s s.heap) (hbl : b < s.heap.size) (hbA : ¬ A b) (hi : i + 6 ≤ L) (hL : L ≤ 3072) (hsim : Sim_join Rel) (hRel : Rel Mc Mm) (hW : Wd K A s (wC K a d Mc ++ wM K a2 Mm) H locs) (hl : lv_has ls 4 [(0, .ref b), (1, .ref (a 0)), (2, .ref (a2 0)), (3, .int (nI i))]) (hce : cells + 3 ≤ 600000) (hsl : slots + 1358 ≤ 7302250)
    (kk : ∀ (Mc1 Mm1 : Mem) (d : Nat → Nat) (H : Heap) (locs : List Loc), Rel Mc1 Mm1 → Wd K A s (wC K a d Mc1 ++ wM K a2 Mm1) H locs → W p l e room_1 s m args below meth c H locs (cells + 3) (slots + 1358) Q (F0 m 1930 ls [])) : W p l e room_1 s m args below meth c H locs cells slots Q (F0 m 1548 ls []) := by
  have hx := hF.1
  have hb := hF.2.1
  refine lv_aload_n hx hb dL_law_1548 rfl (lv_at hl 1 rfl) ?_
  refine lv_aload_n hx hb dL_law_1549 rfl (lv_at hl 0 rfl) ?_
  refine lv_iload_n hx hb dL_law_1550 rfl (lv_at hl 3 rfl) ?_
  refine lv_iconst (v := 1) hx hb dL_law_1551 (by decide) ?_
  refine lv_iadd hx hb dL_law_1552 ?_
  refine va_sld hx hb hX hbl hbA hW.2.2 (si1 hi hL) dL_law_1553 ?_
  refine lv_aload_n hx hb dL_law_1554 rfl (lv_at hl 0 rfl) ?_
  refine lv_iload_n hx hb dL_law_1555 rfl (lv_at hl 3 rfl) ?_
  refine lv_iconst (v := 2) hx hb dL_law_1556 (by decide) ?_
  refine lv_iadd hx hb dL_law_1557 ?_
  refine va_sld hx hb hX hbl hbA hW.2.2 (si2 hi hL) dL_law_1558 ?_
  obtain ⟨r, Mc1, Mm1, h1, h2, hRel1⟩ := hsim Mc Mm (xs (nI i + 1).toNatClampNeg) (xs (nI i + 2).toNatClampNeg) hRel
  refine cVf_i (ci := 11) (q0 := 0) (rest := []) hF hW mw_L_156 (c_X11_join l K a d h1) ⟨by decide, by decide⟩ rfl rfl (pC_0 K a d _) rfl hl.1 rfl (Nat.le_of_ble_eq_true rfl) dL_law_1559 ⟨by dsimp only [room_1]; omega, by dsimp only [room_1]; omega⟩ (fun d1 H locs hW => ?_)
  have hW := wd_comm hW
  refine lv_aload_n hx hb dL_law_1562 rfl (lv_at hl 2 rfl) ?_
  refine lv_aload_n hx hb dL_law_1563 rfl (lv_at hl 0 rfl) ?_
  refine lv_iload_n hx hb dL_law_1564 rfl (lv_at hl 3 rfl) ?_
  refine lv_iconst (v := 1) hx hb dL_law_1565 (by decide) ?_
  refine lv_iadd hx hb dL_law_1566 ?_
  refine va_sld hx hb hX hbl hbA hW.2.2 (si1 hi hL) dL_law_1567 ?_
  refine lv_aload_n hx hb dL_law_1568 rfl (lv_at hl 0 rfl) ?_
  refine lv_iload_n hx hb dL_law_1569 rfl (lv_at hl 3 rfl) ?_
  refine lv_iconst (v := 2) hx hb dL_law_1570 (by decide) ?_
  refine lv_iadd hx hb dL_law_1571 ?_
  refine va_sld hx hb hX hbl hbA hW.2.2 (si2 hi hL) dL_law_1572 ?_
  refine cVf_i (ci := 12) (q0 := 0) (rest := [.int r]) hF hW mw_L_159 (c_X12_join l K a2 h2) ⟨by decide, by decide⟩ rfl rfl (pM_0 K a2 _) rfl hl.1 rfl (Nat.le_of_ble_eq_true rfl) dL_law_1573 ⟨by dsimp only [room_1]; omega, by dsimp only [room_1]; omega⟩ (fun _ H locs hW => ?_)
  have hW := wd_comm hW
  refine lv_icmp_eq (tgt := 1930) hx hb dL_law_1576 (by decide) (fun _ => ?_) (fun z => absurd rfl z)
  refine W.widen (k := cells + 3) (n := slots + 1358) (by dsimp only; omega) (by dsimp only; omega) ?_
  exact kk _ _ d1 _ _ hRel1 hW
set_option maxRecDepth 100000 in
set_option maxHeartbeats 1000000 in
theorem lc_34 (hF : Fx p s m args c code 4 RL K A) (hX : va_X b L xs s s.heap) (hbl : b < s.heap.size) (hbA : ¬ A b) (hi : i + 6 ≤ L) (hL : L ≤ 3072) (hsim : Sim_undo Rel) (hRel : Rel Mc Mm) (hW : Wd K A s (wC K a d Mc ++ wM K a2 Mm) H locs) (hl : lv_has ls 4 [(0, .ref b), (1, .ref (a 0)), (2, .ref (a2 0)), (3, .int (nI i))]) (hce : cells + 3 ≤ 600000) (hsl : slots + 1358 ≤ 7302250)
    (kk : ∀ (Mc1 Mm1 : Mem) (d : Nat → Nat) (H : Heap) (locs : List Loc), Rel Mc1 Mm1 → Wd K A s (wC K a d Mc1 ++ wM K a2 Mm1) H locs → W p l e room_1 s m args below meth c H locs (cells + 3) (slots + 1358) Q (F0 m 1930 ls [])) : W p l e room_1 s m args below meth c H locs cells slots Q (F0 m 1581 ls []) := by
  have hx := hF.1
  have hb := hF.2.1
  refine lv_aload_n hx hb dL_law_1581 rfl (lv_at hl 1 rfl) ?_
  obtain ⟨r, Mc1, Mm1, h1, h2, hRel1⟩ := hsim Mc Mm hRel
  refine cVf_i (ci := 11) (q0 := 0) (rest := []) hF hW mw_L_160 (c_X11_undo l K a d h1) ⟨by decide, by decide⟩ rfl rfl (pC_0 K a d _) rfl hl.1 rfl (Nat.le_of_ble_eq_true rfl) dL_law_1582 ⟨by dsimp only [room_1]; omega, by dsimp only [room_1]; omega⟩ (fun _ H locs hW => ?_)
  have hW := wd_comm hW
  refine lv_aload_n hx hb dL_law_1585 rfl (lv_at hl 2 rfl) ?_
  refine cVf_i (ci := 12) (q0 := 0) (rest := [.int r]) hF hW mw_L_163 (c_X12_undo l K a2 h2) ⟨by decide, by decide⟩ rfl rfl (pM_0 K a2 _) rfl hl.1 rfl (Nat.le_of_ble_eq_true rfl) dL_law_1586 ⟨by dsimp only [room_1]; omega, by dsimp only [room_1]; omega⟩ (fun _ H locs hW => ?_)
  have hW := wd_comm hW
  refine lv_icmp_eq (tgt := 1930) hx hb dL_law_1589 (by decide) (fun _ => ?_) (fun z => absurd rfl z)
  refine W.widen (k := cells + 3) (n := slots + 1358) (by dsimp only; omega) (by dsimp only; omega) ?_
  exact kk _ _ d _ _ hRel1 hW
set_option maxRecDepth 100000 in
set_option maxHeartbeats 1000000 in
theorem lc_35 (hF : Fx p s m args c code 4 RL K A) (hX : va_X b L xs s s.heap) (hbl : b < s.heap.size) (hbA : ¬ A b) (hi : i + 6 ≤ L) (hL : L ≤ 3072) (hsim : Sim_order Rel) (hRel : Rel Mc Mm) (hW : Wd K A s (wC K a d Mc ++ wM K a2 Mm) H locs) (hl : lv_has ls 4 [(0, .ref b), (1, .ref (a 0)), (2, .ref (a2 0)), (3, .int (nI i))]) (hce : cells + 3 ≤ 600000) (hsl : slots + 1358 ≤ 7302250)
    (kk : ∀ (Mc1 Mm1 : Mem) (d : Nat → Nat) (H : Heap) (locs : List Loc), Rel Mc1 Mm1 → Wd K A s (wC K a d Mc1 ++ wM K a2 Mm1) H locs → W p l e room_1 s m args below meth c H locs (cells + 3) (slots + 1358) Q (F0 m 1930 ls [])) : W p l e room_1 s m args below meth c H locs cells slots Q (F0 m 1594 ls []) := by
  have hx := hF.1
  have hb := hF.2.1
  refine lv_aload_n hx hb dL_law_1594 rfl (lv_at hl 1 rfl) ?_
  refine lv_aload_n hx hb dL_law_1595 rfl (lv_at hl 0 rfl) ?_
  refine lv_iload_n hx hb dL_law_1596 rfl (lv_at hl 3 rfl) ?_
  refine lv_iconst (v := 1) hx hb dL_law_1597 (by decide) ?_
  refine lv_iadd hx hb dL_law_1598 ?_
  refine va_sld hx hb hX hbl hbA hW.2.2 (si1 hi hL) dL_law_1599 ?_
  refine lv_aload_n hx hb dL_law_1600 rfl (lv_at hl 0 rfl) ?_
  refine lv_iload_n hx hb dL_law_1601 rfl (lv_at hl 3 rfl) ?_
  refine lv_iconst (v := 2) hx hb dL_law_1602 (by decide) ?_
  refine lv_iadd hx hb dL_law_1603 ?_
  refine va_sld hx hb hX hbl hbA hW.2.2 (si2 hi hL) dL_law_1604 ?_
  refine lv_aload_n hx hb dL_law_1605 rfl (lv_at hl 0 rfl) ?_
  refine lv_iload_n hx hb dL_law_1606 rfl (lv_at hl 3 rfl) ?_
  refine lv_iconst (v := 3) hx hb dL_law_1607 (by decide) ?_
  refine lv_iadd hx hb dL_law_1608 ?_
  refine va_sld hx hb hX hbl hbA hW.2.2 (si3 hi hL) dL_law_1609 ?_
  obtain ⟨r, Mc1, Mm1, h1, h2, hRel1⟩ := hsim Mc Mm (xs (nI i + 1).toNatClampNeg) (xs (nI i + 2).toNatClampNeg) (xs (nI i + 3).toNatClampNeg) hRel
  refine cVf_i (ci := 11) (q0 := 0) (rest := []) hF hW mw_L_164 (c_X11_order l K a d h1) ⟨by decide, by decide⟩ rfl rfl (pC_0 K a d _) rfl hl.1 rfl (Nat.le_of_ble_eq_true rfl) dL_law_1610 ⟨by dsimp only [room_1]; omega, by dsimp only [room_1]; omega⟩ (fun _ H locs hW => ?_)
  have hW := wd_comm hW
  refine lv_aload_n hx hb dL_law_1613 rfl (lv_at hl 2 rfl) ?_
  refine lv_aload_n hx hb dL_law_1614 rfl (lv_at hl 0 rfl) ?_
  refine lv_iload_n hx hb dL_law_1615 rfl (lv_at hl 3 rfl) ?_
  refine lv_iconst (v := 1) hx hb dL_law_1616 (by decide) ?_
  refine lv_iadd hx hb dL_law_1617 ?_
  refine va_sld hx hb hX hbl hbA hW.2.2 (si1 hi hL) dL_law_1618 ?_
  refine lv_aload_n hx hb dL_law_1619 rfl (lv_at hl 0 rfl) ?_
  refine lv_iload_n hx hb dL_law_1620 rfl (lv_at hl 3 rfl) ?_
  refine lv_iconst (v := 2) hx hb dL_law_1621 (by decide) ?_
  refine lv_iadd hx hb dL_law_1622 ?_
  refine va_sld hx hb hX hbl hbA hW.2.2 (si2 hi hL) dL_law_1623 ?_
  refine lv_aload_n hx hb dL_law_1624 rfl (lv_at hl 0 rfl) ?_
  refine lv_iload_n hx hb dL_law_1625 rfl (lv_at hl 3 rfl) ?_
  refine lv_iconst (v := 3) hx hb dL_law_1626 (by decide) ?_
  refine lv_iadd hx hb dL_law_1627 ?_
  refine va_sld hx hb hX hbl hbA hW.2.2 (si3 hi hL) dL_law_1628 ?_
  refine cVf_i (ci := 12) (q0 := 0) (rest := [.int r]) hF hW mw_L_167 (c_X12_order l K a2 h2) ⟨by decide, by decide⟩ rfl rfl (pM_0 K a2 _) rfl hl.1 rfl (Nat.le_of_ble_eq_true rfl) dL_law_1629 ⟨by dsimp only [room_1]; omega, by dsimp only [room_1]; omega⟩ (fun _ H locs hW => ?_)
  have hW := wd_comm hW
  refine lv_icmp_eq (tgt := 1930) hx hb dL_law_1632 (by decide) (fun _ => ?_) (fun z => absurd rfl z)
  refine W.widen (k := cells + 3) (n := slots + 1358) (by dsimp only; omega) (by dsimp only; omega) ?_
  exact kk _ _ d _ _ hRel1 hW
set_option maxRecDepth 100000 in
set_option maxHeartbeats 1000000 in
theorem lc_36 (hF : Fx p s m args c code 4 RL K A) (hX : va_X b L xs s s.heap) (hbl : b < s.heap.size) (hbA : ¬ A b) (hi : i + 6 ≤ L) (hL : L ≤ 3072) (hsim : Sim_allowed Rel) (hRel : Rel Mc Mm) (hW : Wd K A s (wC K a d Mc ++ wM K a2 Mm) H locs) (hl : lv_has ls 4 [(0, .ref b), (1, .ref (a 0)), (2, .ref (a2 0)), (3, .int (nI i))]) (hce : cells + 3 ≤ 600000) (hsl : slots + 1358 ≤ 7302250)
    (kk : ∀ (Mc1 Mm1 : Mem) (d : Nat → Nat) (H : Heap) (locs : List Loc), Rel Mc1 Mm1 → Wd K A s (wC K a d Mc1 ++ wM K a2 Mm1) H locs → W p l e room_1 s m args below meth c H locs (cells + 3) (slots + 1358) Q (F0 m 1930 ls [])) : W p l e room_1 s m args below meth c H locs cells slots Q (F0 m 1637 ls []) := by
  have hx := hF.1
  have hb := hF.2.1
  refine lv_aload_n hx hb dL_law_1637 rfl (lv_at hl 1 rfl) ?_
  obtain ⟨r, Mc1, Mm1, h1, h2, hRel1⟩ := hsim Mc Mm hRel
  refine cVf_i (ci := 11) (q0 := 0) (rest := []) hF hW mw_L_168 (c_X11_allowed l K a d h1) ⟨by decide, by decide⟩ rfl rfl (pC_0 K a d _) rfl hl.1 rfl (Nat.le_of_ble_eq_true rfl) dL_law_1638 ⟨by dsimp only [room_1]; omega, by dsimp only [room_1]; omega⟩ (fun _ H locs hW => ?_)
  have hW := wd_comm hW
  refine lv_aload_n hx hb dL_law_1641 rfl (lv_at hl 2 rfl) ?_
  refine cVf_i (ci := 12) (q0 := 0) (rest := [.int r]) hF hW mw_L_171 (c_X12_allowed l K a2 h2) ⟨by decide, by decide⟩ rfl rfl (pM_0 K a2 _) rfl hl.1 rfl (Nat.le_of_ble_eq_true rfl) dL_law_1642 ⟨by dsimp only [room_1]; omega, by dsimp only [room_1]; omega⟩ (fun _ H locs hW => ?_)
  have hW := wd_comm hW
  refine lv_icmp_eq (tgt := 1930) hx hb dL_law_1645 (by decide) (fun _ => ?_) (fun z => absurd rfl z)
  refine W.widen (k := cells + 3) (n := slots + 1358) (by dsimp only; omega) (by dsimp only; omega) ?_
  exact kk _ _ d _ _ hRel1 hW
set_option maxRecDepth 100000 in
set_option maxHeartbeats 1000000 in
theorem lc_37 (hF : Fx p s m args c code 4 RL K A) (hX : va_X b L xs s s.heap) (hbl : b < s.heap.size) (hbA : ¬ A b) (hi : i + 6 ≤ L) (hL : L ≤ 3072) (hsim : Sim_why Rel) (hRel : Rel Mc Mm) (hW : Wd K A s (wC K a d Mc ++ wM K a2 Mm) H locs) (hl : lv_has ls 4 [(0, .ref b), (1, .ref (a 0)), (2, .ref (a2 0)), (3, .int (nI i))]) (hce : cells + 3 ≤ 600000) (hsl : slots + 1358 ≤ 7302250)
    (kk : ∀ (Mc1 Mm1 : Mem) (d : Nat → Nat) (H : Heap) (locs : List Loc), Rel Mc1 Mm1 → Wd K A s (wC K a d Mc1 ++ wM K a2 Mm1) H locs → W p l e room_1 s m args below meth c H locs (cells + 3) (slots + 1358) Q (F0 m 1930 ls [])) : W p l e room_1 s m args below meth c H locs cells slots Q (F0 m 1650 ls []) := by
  have hx := hF.1
  have hb := hF.2.1
  refine lv_aload_n hx hb dL_law_1650 rfl (lv_at hl 1 rfl) ?_
  refine lv_aload_n hx hb dL_law_1651 rfl (lv_at hl 0 rfl) ?_
  refine lv_iload_n hx hb dL_law_1652 rfl (lv_at hl 3 rfl) ?_
  refine lv_iconst (v := 1) hx hb dL_law_1653 (by decide) ?_
  refine lv_iadd hx hb dL_law_1654 ?_
  refine va_sld hx hb hX hbl hbA hW.2.2 (si1 hi hL) dL_law_1655 ?_
  obtain ⟨r, Mc1, Mm1, h1, h2, hRel1⟩ := hsim Mc Mm (xs (nI i + 1).toNatClampNeg) hRel
  refine cVf_i (ci := 11) (q0 := 0) (rest := []) hF hW mw_L_172 (c_X11_why l K a d h1) ⟨by decide, by decide⟩ rfl rfl (pC_0 K a d _) rfl hl.1 rfl (Nat.le_of_ble_eq_true rfl) dL_law_1656 ⟨by dsimp only [room_1]; omega, by dsimp only [room_1]; omega⟩ (fun _ H locs hW => ?_)
  have hW := wd_comm hW
  refine lv_aload_n hx hb dL_law_1659 rfl (lv_at hl 2 rfl) ?_
  refine lv_aload_n hx hb dL_law_1660 rfl (lv_at hl 0 rfl) ?_
  refine lv_iload_n hx hb dL_law_1661 rfl (lv_at hl 3 rfl) ?_
  refine lv_iconst (v := 1) hx hb dL_law_1662 (by decide) ?_
  refine lv_iadd hx hb dL_law_1663 ?_
  refine va_sld hx hb hX hbl hbA hW.2.2 (si1 hi hL) dL_law_1664 ?_
  refine cVf_i (ci := 12) (q0 := 0) (rest := [.int r]) hF hW mw_L_175 (c_X12_why l K a2 h2) ⟨by decide, by decide⟩ rfl rfl (pM_0 K a2 _) rfl hl.1 rfl (Nat.le_of_ble_eq_true rfl) dL_law_1665 ⟨by dsimp only [room_1]; omega, by dsimp only [room_1]; omega⟩ (fun _ H locs hW => ?_)
  have hW := wd_comm hW
  refine lv_icmp_eq (tgt := 1930) hx hb dL_law_1668 (by decide) (fun _ => ?_) (fun z => absurd rfl z)
  refine W.widen (k := cells + 3) (n := slots + 1358) (by dsimp only; omega) (by dsimp only; omega) ?_
  exact kk _ _ d _ _ hRel1 hW
set_option maxRecDepth 100000 in
set_option maxHeartbeats 1000000 in
theorem lc_38 (hF : Fx p s m args c code 4 RL K A) (hX : va_X b L xs s s.heap) (hbl : b < s.heap.size) (hbA : ¬ A b) (hi : i + 6 ≤ L) (hL : L ≤ 3072) (hsim : Sim_run Rel) (hRel : Rel Mc Mm) (hW : Wd K A s (wC K a d Mc ++ wM K a2 Mm) H locs) (hl : lv_has ls 4 [(0, .ref b), (1, .ref (a 0)), (2, .ref (a2 0)), (3, .int (nI i))]) (hce : cells + 3 ≤ 600000) (hsl : slots + 1358 ≤ 7302250)
    (kk : ∀ (Mc1 Mm1 : Mem) (d : Nat → Nat) (H : Heap) (locs : List Loc), Rel Mc1 Mm1 → Wd K A s (wC K a d Mc1 ++ wM K a2 Mm1) H locs → W p l e room_1 s m args below meth c H locs (cells + 3) (slots + 1358) Q (F0 m 1930 ls [])) : W p l e room_1 s m args below meth c H locs cells slots Q (F0 m 1673 ls []) := by
  have hx := hF.1
  have hb := hF.2.1
  refine lv_aload_n hx hb dL_law_1673 rfl (lv_at hl 1 rfl) ?_
  refine lv_aload_n hx hb dL_law_1674 rfl (lv_at hl 0 rfl) ?_
  refine lv_iload_n hx hb dL_law_1675 rfl (lv_at hl 3 rfl) ?_
  refine lv_iconst (v := 1) hx hb dL_law_1676 (by decide) ?_
  refine lv_iadd hx hb dL_law_1677 ?_
  refine va_sld hx hb hX hbl hbA hW.2.2 (si1 hi hL) dL_law_1678 ?_
  refine lv_if_eq (tgt := 1686) hx hb dL_law_1679 (by decide) (fun q0 => ?_) (fun q0 => ?_)
  · refine lv_iconst (v := 0) hx hb dL_law_1686 (by decide) ?_
    obtain ⟨r, Mc1, Mm1, h1, h2, hRel1⟩ := hsim Mc Mm false hRel
    refine cVf_i (ci := 11) (q0 := 0) (rest := []) hF hW mw_L_176 (c_X11_run l K a d h1) ⟨by decide, by decide⟩ rfl rfl (pC_0 K a d _) rfl hl.1 rfl (Nat.le_of_ble_eq_true rfl) dL_law_1687 ⟨by dsimp only [room_1]; omega, by dsimp only [room_1]; omega⟩ (fun _ H locs hW => ?_)
    have hW := wd_comm hW
    refine lv_aload_n hx hb dL_law_1690 rfl (lv_at hl 2 rfl) ?_
    refine lv_aload_n hx hb dL_law_1691 rfl (lv_at hl 0 rfl) ?_
    refine lv_iload_n hx hb dL_law_1692 rfl (lv_at hl 3 rfl) ?_
    refine lv_iconst (v := 1) hx hb dL_law_1693 (by decide) ?_
    refine lv_iadd hx hb dL_law_1694 ?_
    refine va_sld hx hb hX hbl hbA hW.2.2 (si1 hi hL) dL_law_1695 ?_
    refine lv_if_eq (tgt := 1703) hx hb dL_law_1696 (by decide) (fun _ => ?_) (fun z => absurd q0 z)
    refine lv_iconst (v := 0) hx hb dL_law_1703 (by decide) ?_
    refine cVf_i (ci := 12) (q0 := 0) (rest := [.int r]) hF hW mw_L_180 (c_X12_run l K a2 h2) ⟨by decide, by decide⟩ rfl rfl (pM_0 K a2 _) rfl hl.1 rfl (Nat.le_of_ble_eq_true rfl) dL_law_1704 ⟨by dsimp only [room_1]; omega, by dsimp only [room_1]; omega⟩ (fun _ H locs hW => ?_)
    have hW := wd_comm hW
    refine lv_icmp_eq (tgt := 1930) hx hb dL_law_1707 (by decide) (fun _ => ?_) (fun z => absurd rfl z)
    refine W.widen (k := cells + 3) (n := slots + 1358) (by dsimp only; omega) (by dsimp only; omega) ?_
    exact kk _ _ d _ _ hRel1 hW
  · refine lv_iconst (v := 1) hx hb dL_law_1682 (by decide) ?_
    refine lv_goto (tgt := 1687) hx hb dL_law_1683 (by decide) ?_
    obtain ⟨r, Mc1, Mm1, h1, h2, hRel1⟩ := hsim Mc Mm true hRel
    refine cVf_i (ci := 11) (q0 := 0) (rest := []) hF hW mw_L_176 (c_X11_run l K a d h1) ⟨by decide, by decide⟩ rfl rfl (pC_0 K a d _) rfl hl.1 rfl (Nat.le_of_ble_eq_true rfl) dL_law_1687 ⟨by dsimp only [room_1]; omega, by dsimp only [room_1]; omega⟩ (fun _ H locs hW => ?_)
    have hW := wd_comm hW
    refine lv_aload_n hx hb dL_law_1690 rfl (lv_at hl 2 rfl) ?_
    refine lv_aload_n hx hb dL_law_1691 rfl (lv_at hl 0 rfl) ?_
    refine lv_iload_n hx hb dL_law_1692 rfl (lv_at hl 3 rfl) ?_
    refine lv_iconst (v := 1) hx hb dL_law_1693 (by decide) ?_
    refine lv_iadd hx hb dL_law_1694 ?_
    refine va_sld hx hb hX hbl hbA hW.2.2 (si1 hi hL) dL_law_1695 ?_
    refine lv_if_eq (tgt := 1703) hx hb dL_law_1696 (by decide) (fun z => absurd z q0) (fun _ => ?_)
    refine lv_iconst (v := 1) hx hb dL_law_1699 (by decide) ?_
    refine lv_goto (tgt := 1704) hx hb dL_law_1700 (by decide) ?_
    refine cVf_i (ci := 12) (q0 := 0) (rest := [.int r]) hF hW mw_L_180 (c_X12_run l K a2 h2) ⟨by decide, by decide⟩ rfl rfl (pM_0 K a2 _) rfl hl.1 rfl (Nat.le_of_ble_eq_true rfl) dL_law_1704 ⟨by dsimp only [room_1]; omega, by dsimp only [room_1]; omega⟩ (fun _ H locs hW => ?_)
    have hW := wd_comm hW
    refine lv_icmp_eq (tgt := 1930) hx hb dL_law_1707 (by decide) (fun _ => ?_) (fun z => absurd rfl z)
    refine W.widen (k := cells + 3) (n := slots + 1358) (by dsimp only; omega) (by dsimp only; omega) ?_
    exact kk _ _ d _ _ hRel1 hW
set_option maxRecDepth 100000 in
set_option maxHeartbeats 1000000 in
theorem lc_39 (hF : Fx p s m args c code 4 RL K A) (hX : va_X b L xs s s.heap) (hbl : b < s.heap.size) (hbA : ¬ A b) (hi : i + 6 ≤ L) (hL : L ≤ 3072) (hsim : Sim_ended Rel) (hRel : Rel Mc Mm) (hW : Wd K A s (wC K a d Mc ++ wM K a2 Mm) H locs) (hl : lv_has ls 4 [(0, .ref b), (1, .ref (a 0)), (2, .ref (a2 0)), (3, .int (nI i))]) (hce : cells + 3 ≤ 600000) (hsl : slots + 1358 ≤ 7302250)
    (kk : ∀ (Mc1 Mm1 : Mem) (d : Nat → Nat) (H : Heap) (locs : List Loc), Rel Mc1 Mm1 → Wd K A s (wC K a d Mc1 ++ wM K a2 Mm1) H locs → W p l e room_1 s m args below meth c H locs (cells + 3) (slots + 1358) Q (F0 m 1930 ls [])) : W p l e room_1 s m args below meth c H locs cells slots Q (F0 m 1712 ls []) := by
  have hx := hF.1
  have hb := hF.2.1
  refine lv_aload_n hx hb dL_law_1712 rfl (lv_at hl 1 rfl) ?_
  refine lv_aload_n hx hb dL_law_1713 rfl (lv_at hl 0 rfl) ?_
  refine lv_iload_n hx hb dL_law_1714 rfl (lv_at hl 3 rfl) ?_
  refine lv_iconst (v := 1) hx hb dL_law_1715 (by decide) ?_
  refine lv_iadd hx hb dL_law_1716 ?_
  refine va_sld hx hb hX hbl hbA hW.2.2 (si1 hi hL) dL_law_1717 ?_
  obtain ⟨r, Mc1, Mm1, h1, h2, hRel1⟩ := hsim Mc Mm (xs (nI i + 1).toNatClampNeg) hRel
  obtain ⟨h1, rfl⟩ := h1
  obtain ⟨h2, rfl⟩ := h2
  refine cVf_i (ci := 11) (q0 := 0) (rest := []) hF hW mw_L_181 (c_X11_ended l K a d h1) ⟨by decide, by decide⟩ rfl rfl (pC_0 K a d _) rfl hl.1 rfl (Nat.le_of_ble_eq_true rfl) dL_law_1718 ⟨by dsimp only [room_1]; omega, by dsimp only [room_1]; omega⟩ (fun _ H locs hW => ?_)
  have hW := wd_comm hW
  refine lv_aload_n hx hb dL_law_1721 rfl (lv_at hl 2 rfl) ?_
  refine lv_aload_n hx hb dL_law_1722 rfl (lv_at hl 0 rfl) ?_
  refine lv_iload_n hx hb dL_law_1723 rfl (lv_at hl 3 rfl) ?_
  refine lv_iconst (v := 1) hx hb dL_law_1724 (by decide) ?_
  refine lv_iadd hx hb dL_law_1725 ?_
  refine va_sld hx hb hX hbl hbA hW.2.2 (si1 hi hL) dL_law_1726 ?_
  refine cVf_i (ci := 12) (q0 := 0) (rest := [.int r]) hF hW mw_L_184 (c_X12_ended l K a2 h2) ⟨by decide, by decide⟩ rfl rfl (pM_0 K a2 _) rfl hl.1 rfl (Nat.le_of_ble_eq_true rfl) dL_law_1727 ⟨by dsimp only [room_1]; omega, by dsimp only [room_1]; omega⟩ (fun _ H locs hW => ?_)
  have hW := wd_comm hW
  refine lv_icmp_eq (tgt := 1930) hx hb dL_law_1730 (by decide) (fun _ => ?_) (fun z => absurd rfl z)
  refine W.widen (k := cells + 3) (n := slots + 1358) (by dsimp only; omega) (by dsimp only; omega) ?_
  exact kk _ _ d _ _ hRel1 hW
set_option maxRecDepth 100000 in
set_option maxHeartbeats 1000000 in
theorem lc_40 (hF : Fx p s m args c code 4 RL K A) (hX : va_X b L xs s s.heap) (hbl : b < s.heap.size) (hbA : ¬ A b) (hi : i + 6 ≤ L) (hL : L ≤ 3072) (hsim : Sim_fetched Rel) (hRel : Rel Mc Mm) (hW : Wd K A s (wC K a d Mc ++ wM K a2 Mm) H locs) (hl : lv_has ls 4 [(0, .ref b), (1, .ref (a 0)), (2, .ref (a2 0)), (3, .int (nI i))]) (hce : cells + 3 ≤ 600000) (hsl : slots + 1358 ≤ 7302250)
    (kk : ∀ (Mc1 Mm1 : Mem) (d : Nat → Nat) (H : Heap) (locs : List Loc), Rel Mc1 Mm1 → Wd K A s (wC K a d Mc1 ++ wM K a2 Mm1) H locs → W p l e room_1 s m args below meth c H locs (cells + 3) (slots + 1358) Q (F0 m 1930 ls [])) : W p l e room_1 s m args below meth c H locs cells slots Q (F0 m 1735 ls []) := by
  have hx := hF.1
  have hb := hF.2.1
  refine lv_aload_n hx hb dL_law_1735 rfl (lv_at hl 1 rfl) ?_
  refine lv_aload_n hx hb dL_law_1736 rfl (lv_at hl 0 rfl) ?_
  refine lv_iload_n hx hb dL_law_1737 rfl (lv_at hl 3 rfl) ?_
  refine lv_iconst (v := 1) hx hb dL_law_1738 (by decide) ?_
  refine lv_iadd hx hb dL_law_1739 ?_
  refine va_sld hx hb hX hbl hbA hW.2.2 (si1 hi hL) dL_law_1740 ?_
  refine lv_aload_n hx hb dL_law_1741 rfl (lv_at hl 0 rfl) ?_
  refine lv_iload_n hx hb dL_law_1742 rfl (lv_at hl 3 rfl) ?_
  refine lv_iconst (v := 2) hx hb dL_law_1743 (by decide) ?_
  refine lv_iadd hx hb dL_law_1744 ?_
  refine va_sld hx hb hX hbl hbA hW.2.2 (si2 hi hL) dL_law_1745 ?_
  obtain ⟨r, Mc1, Mm1, h1, h2, hRel1⟩ := hsim Mc Mm (xs (nI i + 1).toNatClampNeg) (xs (nI i + 2).toNatClampNeg) hRel
  refine cVf_i (ci := 11) (q0 := 0) (rest := []) hF hW mw_L_185 (c_X11_fetched l K a d h1) ⟨by decide, by decide⟩ rfl rfl (pC_0 K a d _) rfl hl.1 rfl (Nat.le_of_ble_eq_true rfl) dL_law_1746 ⟨by dsimp only [room_1]; omega, by dsimp only [room_1]; omega⟩ (fun _ H locs hW => ?_)
  have hW := wd_comm hW
  refine lv_aload_n hx hb dL_law_1749 rfl (lv_at hl 2 rfl) ?_
  refine lv_aload_n hx hb dL_law_1750 rfl (lv_at hl 0 rfl) ?_
  refine lv_iload_n hx hb dL_law_1751 rfl (lv_at hl 3 rfl) ?_
  refine lv_iconst (v := 1) hx hb dL_law_1752 (by decide) ?_
  refine lv_iadd hx hb dL_law_1753 ?_
  refine va_sld hx hb hX hbl hbA hW.2.2 (si1 hi hL) dL_law_1754 ?_
  refine lv_aload_n hx hb dL_law_1755 rfl (lv_at hl 0 rfl) ?_
  refine lv_iload_n hx hb dL_law_1756 rfl (lv_at hl 3 rfl) ?_
  refine lv_iconst (v := 2) hx hb dL_law_1757 (by decide) ?_
  refine lv_iadd hx hb dL_law_1758 ?_
  refine va_sld hx hb hX hbl hbA hW.2.2 (si2 hi hL) dL_law_1759 ?_
  refine cVf_i (ci := 12) (q0 := 0) (rest := [.int r]) hF hW mw_L_188 (c_X12_fetched l K a2 h2) ⟨by decide, by decide⟩ rfl rfl (pM_0 K a2 _) rfl hl.1 rfl (Nat.le_of_ble_eq_true rfl) dL_law_1760 ⟨by dsimp only [room_1]; omega, by dsimp only [room_1]; omega⟩ (fun _ H locs hW => ?_)
  have hW := wd_comm hW
  refine lv_icmp_eq (tgt := 1930) hx hb dL_law_1763 (by decide) (fun _ => ?_) (fun z => absurd rfl z)
  refine W.widen (k := cells + 3) (n := slots + 1358) (by dsimp only; omega) (by dsimp only; omega) ?_
  exact kk _ _ d _ _ hRel1 hW
set_option maxRecDepth 100000 in
set_option maxHeartbeats 1000000 in
theorem lc_41 (hF : Fx p s m args c code 4 RL K A) (hX : va_X b L xs s s.heap) (hbl : b < s.heap.size) (hbA : ¬ A b) (hi : i + 6 ≤ L) (hL : L ≤ 3072) (hsim : Sim_best Rel) (hRel : Rel Mc Mm) (hW : Wd K A s (wC K a d Mc ++ wM K a2 Mm) H locs) (hl : lv_has ls 4 [(0, .ref b), (1, .ref (a 0)), (2, .ref (a2 0)), (3, .int (nI i))]) (hce : cells + 3 ≤ 600000) (hsl : slots + 1358 ≤ 7302250)
    (kk : ∀ (Mc1 Mm1 : Mem) (d : Nat → Nat) (H : Heap) (locs : List Loc), Rel Mc1 Mm1 → Wd K A s (wC K a d Mc1 ++ wM K a2 Mm1) H locs → W p l e room_1 s m args below meth c H locs (cells + 3) (slots + 1358) Q (F0 m 1930 ls [])) : W p l e room_1 s m args below meth c H locs cells slots Q (F0 m 1768 ls []) := by
  have hx := hF.1
  have hb := hF.2.1
  refine lv_aload_n hx hb dL_law_1768 rfl (lv_at hl 1 rfl) ?_
  refine lv_aload_n hx hb dL_law_1769 rfl (lv_at hl 0 rfl) ?_
  refine lv_iload_n hx hb dL_law_1770 rfl (lv_at hl 3 rfl) ?_
  refine lv_iconst (v := 1) hx hb dL_law_1771 (by decide) ?_
  refine lv_iadd hx hb dL_law_1772 ?_
  refine va_sld hx hb hX hbl hbA hW.2.2 (si1 hi hL) dL_law_1773 ?_
  refine lv_aload_n hx hb dL_law_1774 rfl (lv_at hl 0 rfl) ?_
  refine lv_iload_n hx hb dL_law_1775 rfl (lv_at hl 3 rfl) ?_
  refine lv_iconst (v := 2) hx hb dL_law_1776 (by decide) ?_
  refine lv_iadd hx hb dL_law_1777 ?_
  refine va_sld hx hb hX hbl hbA hW.2.2 (si2 hi hL) dL_law_1778 ?_
  refine lv_aload_n hx hb dL_law_1779 rfl (lv_at hl 0 rfl) ?_
  refine lv_iload_n hx hb dL_law_1780 rfl (lv_at hl 3 rfl) ?_
  refine lv_iconst (v := 3) hx hb dL_law_1781 (by decide) ?_
  refine lv_iadd hx hb dL_law_1782 ?_
  refine va_sld hx hb hX hbl hbA hW.2.2 (si3 hi hL) dL_law_1783 ?_
  obtain ⟨r, Mc1, Mm1, h1, h2, hRel1⟩ := hsim Mc Mm (xs (nI i + 1).toNatClampNeg) (xs (nI i + 2).toNatClampNeg) (xs (nI i + 3).toNatClampNeg) hRel
  refine cVf_i (ci := 11) (q0 := 0) (rest := []) hF hW mw_L_189 (c_X11_best l K a d h1) ⟨by decide, by decide⟩ rfl rfl (pC_0 K a d _) rfl hl.1 rfl (Nat.le_of_ble_eq_true rfl) dL_law_1784 ⟨by dsimp only [room_1]; omega, by dsimp only [room_1]; omega⟩ (fun d1 H locs hW => ?_)
  have hW := wd_comm hW
  refine lv_aload_n hx hb dL_law_1787 rfl (lv_at hl 2 rfl) ?_
  refine lv_aload_n hx hb dL_law_1788 rfl (lv_at hl 0 rfl) ?_
  refine lv_iload_n hx hb dL_law_1789 rfl (lv_at hl 3 rfl) ?_
  refine lv_iconst (v := 1) hx hb dL_law_1790 (by decide) ?_
  refine lv_iadd hx hb dL_law_1791 ?_
  refine va_sld hx hb hX hbl hbA hW.2.2 (si1 hi hL) dL_law_1792 ?_
  refine lv_aload_n hx hb dL_law_1793 rfl (lv_at hl 0 rfl) ?_
  refine lv_iload_n hx hb dL_law_1794 rfl (lv_at hl 3 rfl) ?_
  refine lv_iconst (v := 2) hx hb dL_law_1795 (by decide) ?_
  refine lv_iadd hx hb dL_law_1796 ?_
  refine va_sld hx hb hX hbl hbA hW.2.2 (si2 hi hL) dL_law_1797 ?_
  refine lv_aload_n hx hb dL_law_1798 rfl (lv_at hl 0 rfl) ?_
  refine lv_iload_n hx hb dL_law_1799 rfl (lv_at hl 3 rfl) ?_
  refine lv_iconst (v := 3) hx hb dL_law_1800 (by decide) ?_
  refine lv_iadd hx hb dL_law_1801 ?_
  refine va_sld hx hb hX hbl hbA hW.2.2 (si3 hi hL) dL_law_1802 ?_
  refine cVf_i (ci := 12) (q0 := 0) (rest := [.int r]) hF hW mw_L_192 (c_X12_best l K a2 h2) ⟨by decide, by decide⟩ rfl rfl (pM_0 K a2 _) rfl hl.1 rfl (Nat.le_of_ble_eq_true rfl) dL_law_1803 ⟨by dsimp only [room_1]; omega, by dsimp only [room_1]; omega⟩ (fun _ H locs hW => ?_)
  have hW := wd_comm hW
  refine lv_icmp_eq (tgt := 1930) hx hb dL_law_1806 (by decide) (fun _ => ?_) (fun z => absurd rfl z)
  refine W.widen (k := cells + 3) (n := slots + 1358) (by dsimp only; omega) (by dsimp only; omega) ?_
  exact kk _ _ d1 _ _ hRel1 hW
set_option maxRecDepth 100000 in
set_option maxHeartbeats 1000000 in
theorem lc_42 (hF : Fx p s m args c code 4 RL K A) (hX : va_X b L xs s s.heap) (hbl : b < s.heap.size) (hbA : ¬ A b) (hi : i + 6 ≤ L) (hL : L ≤ 3072) (hsim : Sim_lines Rel) (hRel : Rel Mc Mm) (hW : Wd K A s (wC K a d Mc ++ wM K a2 Mm) H locs) (hl : lv_has ls 4 [(0, .ref b), (1, .ref (a 0)), (2, .ref (a2 0)), (3, .int (nI i))]) (hce : cells + 3 ≤ 600000) (hsl : slots + 1358 ≤ 7302250)
    (kk : ∀ (Mc1 Mm1 : Mem) (d : Nat → Nat) (H : Heap) (locs : List Loc), Rel Mc1 Mm1 → Wd K A s (wC K a d Mc1 ++ wM K a2 Mm1) H locs → W p l e room_1 s m args below meth c H locs (cells + 3) (slots + 1358) Q (F0 m 1930 ls [])) : W p l e room_1 s m args below meth c H locs cells slots Q (F0 m 1811 ls []) := by
  have hx := hF.1
  have hb := hF.2.1
  refine lv_aload_n hx hb dL_law_1811 rfl (lv_at hl 1 rfl) ?_
  obtain ⟨r, Mc1, Mm1, h1, h2, hRel1⟩ := hsim Mc Mm hRel
  refine cVf_i (ci := 11) (q0 := 0) (rest := []) hF hW mw_L_193 (c_X11_lines l K a d h1) ⟨by decide, by decide⟩ rfl rfl (pC_0 K a d _) rfl hl.1 rfl (Nat.le_of_ble_eq_true rfl) dL_law_1812 ⟨by dsimp only [room_1]; omega, by dsimp only [room_1]; omega⟩ (fun _ H locs hW => ?_)
  have hW := wd_comm hW
  refine lv_aload_n hx hb dL_law_1815 rfl (lv_at hl 2 rfl) ?_
  refine cVf_i (ci := 12) (q0 := 0) (rest := [.int r]) hF hW mw_L_196 (c_X12_lines l K a2 h2) ⟨by decide, by decide⟩ rfl rfl (pM_0 K a2 _) rfl hl.1 rfl (Nat.le_of_ble_eq_true rfl) dL_law_1816 ⟨by dsimp only [room_1]; omega, by dsimp only [room_1]; omega⟩ (fun _ H locs hW => ?_)
  have hW := wd_comm hW
  refine lv_icmp_eq (tgt := 1930) hx hb dL_law_1819 (by decide) (fun _ => ?_) (fun z => absurd rfl z)
  refine W.widen (k := cells + 3) (n := slots + 1358) (by dsimp only; omega) (by dsimp only; omega) ?_
  exact kk _ _ d _ _ hRel1 hW
set_option maxRecDepth 100000 in
set_option maxHeartbeats 1000000 in
theorem lc_43 (hF : Fx p s m args c code 4 RL K A) (hX : va_X b L xs s s.heap) (hbl : b < s.heap.size) (hbA : ¬ A b) (hi : i + 6 ≤ L) (hL : L ≤ 3072) (hsim : Sim_written Rel) (hRel : Rel Mc Mm) (hW : Wd K A s (wC K a d Mc ++ wM K a2 Mm) H locs) (hl : lv_has ls 4 [(0, .ref b), (1, .ref (a 0)), (2, .ref (a2 0)), (3, .int (nI i))]) (hce : cells + 3 ≤ 600000) (hsl : slots + 1358 ≤ 7302250)
    (kk : ∀ (Mc1 Mm1 : Mem) (d : Nat → Nat) (H : Heap) (locs : List Loc), Rel Mc1 Mm1 → Wd K A s (wC K a d Mc1 ++ wM K a2 Mm1) H locs → W p l e room_1 s m args below meth c H locs (cells + 3) (slots + 1358) Q (F0 m 1930 ls [])) : W p l e room_1 s m args below meth c H locs cells slots Q (F0 m 1824 ls []) := by
  have hx := hF.1
  have hb := hF.2.1
  refine lv_aload_n hx hb dL_law_1824 rfl (lv_at hl 1 rfl) ?_
  refine lv_aload_n hx hb dL_law_1825 rfl (lv_at hl 0 rfl) ?_
  refine lv_iload_n hx hb dL_law_1826 rfl (lv_at hl 3 rfl) ?_
  refine lv_iconst (v := 1) hx hb dL_law_1827 (by decide) ?_
  refine lv_iadd hx hb dL_law_1828 ?_
  refine va_sld hx hb hX hbl hbA hW.2.2 (si1 hi hL) dL_law_1829 ?_
  refine lv_aload_n hx hb dL_law_1830 rfl (lv_at hl 0 rfl) ?_
  refine lv_iload_n hx hb dL_law_1831 rfl (lv_at hl 3 rfl) ?_
  refine lv_iconst (v := 2) hx hb dL_law_1832 (by decide) ?_
  refine lv_iadd hx hb dL_law_1833 ?_
  refine va_sld hx hb hX hbl hbA hW.2.2 (si2 hi hL) dL_law_1834 ?_
  obtain ⟨r, Mc1, Mm1, h1, h2, hRel1⟩ := hsim Mc Mm (xs (nI i + 1).toNatClampNeg) (xs (nI i + 2).toNatClampNeg) hRel
  refine cVf_i (ci := 11) (q0 := 0) (rest := []) hF hW mw_L_197 (c_X11_written l K a d h1) ⟨by decide, by decide⟩ rfl rfl (pC_0 K a d _) rfl hl.1 rfl (Nat.le_of_ble_eq_true rfl) dL_law_1835 ⟨by dsimp only [room_1]; omega, by dsimp only [room_1]; omega⟩ (fun _ H locs hW => ?_)
  have hW := wd_comm hW
  refine lv_aload_n hx hb dL_law_1838 rfl (lv_at hl 2 rfl) ?_
  refine lv_aload_n hx hb dL_law_1839 rfl (lv_at hl 0 rfl) ?_
  refine lv_iload_n hx hb dL_law_1840 rfl (lv_at hl 3 rfl) ?_
  refine lv_iconst (v := 1) hx hb dL_law_1841 (by decide) ?_
  refine lv_iadd hx hb dL_law_1842 ?_
  refine va_sld hx hb hX hbl hbA hW.2.2 (si1 hi hL) dL_law_1843 ?_
  refine lv_aload_n hx hb dL_law_1844 rfl (lv_at hl 0 rfl) ?_
  refine lv_iload_n hx hb dL_law_1845 rfl (lv_at hl 3 rfl) ?_
  refine lv_iconst (v := 2) hx hb dL_law_1846 (by decide) ?_
  refine lv_iadd hx hb dL_law_1847 ?_
  refine va_sld hx hb hX hbl hbA hW.2.2 (si2 hi hL) dL_law_1848 ?_
  refine cVf_i (ci := 12) (q0 := 0) (rest := [.int r]) hF hW mw_L_200 (c_X12_written l K a2 h2) ⟨by decide, by decide⟩ rfl rfl (pM_0 K a2 _) rfl hl.1 rfl (Nat.le_of_ble_eq_true rfl) dL_law_1849 ⟨by dsimp only [room_1]; omega, by dsimp only [room_1]; omega⟩ (fun _ H locs hW => ?_)
  have hW := wd_comm hW
  refine lv_icmp_eq (tgt := 1930) hx hb dL_law_1852 (by decide) (fun _ => ?_) (fun z => absurd rfl z)
  refine W.widen (k := cells + 3) (n := slots + 1358) (by dsimp only; omega) (by dsimp only; omega) ?_
  exact kk _ _ d _ _ hRel1 hW
set_option maxRecDepth 100000 in
set_option maxHeartbeats 1000000 in
theorem lc_44 (hF : Fx p s m args c code 4 RL K A) (hX : va_X b L xs s s.heap) (hbl : b < s.heap.size) (hbA : ¬ A b) (hi : i + 6 ≤ L) (hL : L ≤ 3072) (hsim : Sim_count Rel) (hRel : Rel Mc Mm) (hW : Wd K A s (wC K a d Mc ++ wM K a2 Mm) H locs) (hl : lv_has ls 4 [(0, .ref b), (1, .ref (a 0)), (2, .ref (a2 0)), (3, .int (nI i))]) (hce : cells + 3 ≤ 600000) (hsl : slots + 1358 ≤ 7302250)
    (kk : ∀ (Mc1 Mm1 : Mem) (d : Nat → Nat) (H : Heap) (locs : List Loc), Rel Mc1 Mm1 → Wd K A s (wC K a d Mc1 ++ wM K a2 Mm1) H locs → W p l e room_1 s m args below meth c H locs (cells + 3) (slots + 1358) Q (F0 m 1930 ls [])) : W p l e room_1 s m args below meth c H locs cells slots Q (F0 m 1857 ls []) := by
  have hx := hF.1
  have hb := hF.2.1
  refine lv_aload_n hx hb dL_law_1857 rfl (lv_at hl 1 rfl) ?_
  refine lv_aload_n hx hb dL_law_1858 rfl (lv_at hl 0 rfl) ?_
  refine lv_iload_n hx hb dL_law_1859 rfl (lv_at hl 3 rfl) ?_
  refine lv_iconst (v := 1) hx hb dL_law_1860 (by decide) ?_
  refine lv_iadd hx hb dL_law_1861 ?_
  refine va_sld hx hb hX hbl hbA hW.2.2 (si1 hi hL) dL_law_1862 ?_
  obtain ⟨r, Mc1, Mm1, h1, h2, hRel1⟩ := hsim Mc Mm (xs (nI i + 1).toNatClampNeg) hRel
  obtain ⟨h1, rfl⟩ := h1
  obtain ⟨h2, rfl⟩ := h2
  refine cVf_i (ci := 11) (q0 := 0) (rest := []) hF hW mw_L_201 (c_X11_count l K a d h1) ⟨by decide, by decide⟩ rfl rfl (pC_0 K a d _) rfl hl.1 rfl (Nat.le_of_ble_eq_true rfl) dL_law_1863 ⟨by dsimp only [room_1]; omega, by dsimp only [room_1]; omega⟩ (fun _ H locs hW => ?_)
  have hW := wd_comm hW
  refine lv_aload_n hx hb dL_law_1866 rfl (lv_at hl 2 rfl) ?_
  refine lv_aload_n hx hb dL_law_1867 rfl (lv_at hl 0 rfl) ?_
  refine lv_iload_n hx hb dL_law_1868 rfl (lv_at hl 3 rfl) ?_
  refine lv_iconst (v := 1) hx hb dL_law_1869 (by decide) ?_
  refine lv_iadd hx hb dL_law_1870 ?_
  refine va_sld hx hb hX hbl hbA hW.2.2 (si1 hi hL) dL_law_1871 ?_
  refine cVf_i (ci := 12) (q0 := 0) (rest := [.int r]) hF hW mw_L_204 (c_X12_count l K a2 h2) ⟨by decide, by decide⟩ rfl rfl (pM_0 K a2 _) rfl hl.1 rfl (Nat.le_of_ble_eq_true rfl) dL_law_1872 ⟨by dsimp only [room_1]; omega, by dsimp only [room_1]; omega⟩ (fun _ H locs hW => ?_)
  have hW := wd_comm hW
  refine lv_icmp_eq (tgt := 1930) hx hb dL_law_1875 (by decide) (fun _ => ?_) (fun z => absurd rfl z)
  refine W.widen (k := cells + 3) (n := slots + 1358) (by dsimp only; omega) (by dsimp only; omega) ?_
  exact kk _ _ d _ _ hRel1 hW
set_option maxRecDepth 100000 in
set_option maxHeartbeats 1000000 in
theorem lc_45 (hF : Fx p s m args c code 4 RL K A) (hX : va_X b L xs s s.heap) (hbl : b < s.heap.size) (hbA : ¬ A b) (hi : i + 6 ≤ L) (hL : L ≤ 3072) (hsim : Sim_finding Rel) (hRel : Rel Mc Mm) (hW : Wd K A s (wC K a d Mc ++ wM K a2 Mm) H locs) (hl : lv_has ls 4 [(0, .ref b), (1, .ref (a 0)), (2, .ref (a2 0)), (3, .int (nI i))]) (hce : cells + 3 ≤ 600000) (hsl : slots + 1358 ≤ 7302250)
    (kk : ∀ (Mc1 Mm1 : Mem) (d : Nat → Nat) (H : Heap) (locs : List Loc), Rel Mc1 Mm1 → Wd K A s (wC K a d Mc1 ++ wM K a2 Mm1) H locs → W p l e room_1 s m args below meth c H locs (cells + 3) (slots + 1358) Q (F0 m 1930 ls [])) : W p l e room_1 s m args below meth c H locs cells slots Q (F0 m 1880 ls []) := by
  have hx := hF.1
  have hb := hF.2.1
  refine lv_aload_n hx hb dL_law_1880 rfl (lv_at hl 1 rfl) ?_
  obtain ⟨r, Mc1, Mm1, h1, h2, hRel1⟩ := hsim Mc Mm hRel
  obtain ⟨h1, rfl⟩ := h1
  obtain ⟨h2, rfl⟩ := h2
  refine cVf_i (ci := 11) (q0 := 0) (rest := []) hF hW mw_L_205 (c_X11_finding l K a d h1) ⟨by decide, by decide⟩ rfl rfl (pC_0 K a d _) rfl hl.1 rfl (Nat.le_of_ble_eq_true rfl) dL_law_1881 ⟨by dsimp only [room_1]; omega, by dsimp only [room_1]; omega⟩ (fun _ H locs hW => ?_)
  have hW := wd_comm hW
  refine lv_aload_n hx hb dL_law_1884 rfl (lv_at hl 2 rfl) ?_
  refine cVf_i (ci := 12) (q0 := 0) (rest := [.int r]) hF hW mw_L_208 (c_X12_finding l K a2 h2) ⟨by decide, by decide⟩ rfl rfl (pM_0 K a2 _) rfl hl.1 rfl (Nat.le_of_ble_eq_true rfl) dL_law_1885 ⟨by dsimp only [room_1]; omega, by dsimp only [room_1]; omega⟩ (fun _ H locs hW => ?_)
  have hW := wd_comm hW
  refine lv_icmp_eq (tgt := 1930) hx hb dL_law_1888 (by decide) (fun _ => ?_) (fun z => absurd rfl z)
  refine W.widen (k := cells + 3) (n := slots + 1358) (by dsimp only; omega) (by dsimp only; omega) ?_
  exact kk _ _ d _ _ hRel1 hW
set_option maxRecDepth 100000 in
set_option maxHeartbeats 1000000 in
theorem lc_46 (hF : Fx p s m args c code 4 RL K A) (hX : va_X b L xs s s.heap) (hbl : b < s.heap.size) (hbA : ¬ A b) (hi : i + 6 ≤ L) (hL : L ≤ 3072) (hsim : Sim_findings Rel) (hRel : Rel Mc Mm) (hW : Wd K A s (wC K a d Mc ++ wM K a2 Mm) H locs) (hl : lv_has ls 4 [(0, .ref b), (1, .ref (a 0)), (2, .ref (a2 0)), (3, .int (nI i))]) (hce : cells + 3 ≤ 600000) (hsl : slots + 1358 ≤ 7302250)
    (kk : ∀ (Mc1 Mm1 : Mem) (d : Nat → Nat) (H : Heap) (locs : List Loc), Rel Mc1 Mm1 → Wd K A s (wC K a d Mc1 ++ wM K a2 Mm1) H locs → W p l e room_1 s m args below meth c H locs (cells + 3) (slots + 1358) Q (F0 m 1930 ls [])) : W p l e room_1 s m args below meth c H locs cells slots Q (F0 m 1893 ls []) := by
  have hx := hF.1
  have hb := hF.2.1
  refine lv_aload_n hx hb dL_law_1893 rfl (lv_at hl 1 rfl) ?_
  refine lv_aload_n hx hb dL_law_1894 rfl (lv_at hl 0 rfl) ?_
  refine lv_iload_n hx hb dL_law_1895 rfl (lv_at hl 3 rfl) ?_
  refine lv_iconst (v := 1) hx hb dL_law_1896 (by decide) ?_
  refine lv_iadd hx hb dL_law_1897 ?_
  refine va_sld hx hb hX hbl hbA hW.2.2 (si1 hi hL) dL_law_1898 ?_
  obtain ⟨r, Mc1, Mm1, h1, h2, hRel1⟩ := hsim Mc Mm (xs (nI i + 1).toNatClampNeg) hRel
  obtain ⟨h1, rfl⟩ := h1
  obtain ⟨h2, rfl⟩ := h2
  refine cVf_i (ci := 11) (q0 := 0) (rest := []) hF hW mw_L_209 (c_X11_findings l K a d h1) ⟨by decide, by decide⟩ rfl rfl (pC_0 K a d _) rfl hl.1 rfl (Nat.le_of_ble_eq_true rfl) dL_law_1899 ⟨by dsimp only [room_1]; omega, by dsimp only [room_1]; omega⟩ (fun _ H locs hW => ?_)
  have hW := wd_comm hW
  refine lv_aload_n hx hb dL_law_1902 rfl (lv_at hl 2 rfl) ?_
  refine lv_aload_n hx hb dL_law_1903 rfl (lv_at hl 0 rfl) ?_
  refine lv_iload_n hx hb dL_law_1904 rfl (lv_at hl 3 rfl) ?_
  refine lv_iconst (v := 1) hx hb dL_law_1905 (by decide) ?_
  refine lv_iadd hx hb dL_law_1906 ?_
  refine va_sld hx hb hX hbl hbA hW.2.2 (si1 hi hL) dL_law_1907 ?_
  refine cVf_i (ci := 12) (q0 := 0) (rest := [.int r]) hF hW mw_L_212 (c_X12_findings l K a2 h2) ⟨by decide, by decide⟩ rfl rfl (pM_0 K a2 _) rfl hl.1 rfl (Nat.le_of_ble_eq_true rfl) dL_law_1908 ⟨by dsimp only [room_1]; omega, by dsimp only [room_1]; omega⟩ (fun _ H locs hW => ?_)
  have hW := wd_comm hW
  refine lv_icmp_eq (tgt := 1930) hx hb dL_law_1911 (by decide) (fun _ => ?_) (fun z => absurd rfl z)
  refine W.widen (k := cells + 3) (n := slots + 1358) (by dsimp only; omega) (by dsimp only; omega) ?_
  exact kk _ _ d _ _ hRel1 hW
set_option maxRecDepth 100000 in
set_option maxHeartbeats 1000000 in
theorem lc_47 (hF : Fx p s m args c code 4 RL K A) (hX : va_X b L xs s s.heap) (hbl : b < s.heap.size) (hbA : ¬ A b) (hi : i + 6 ≤ L) (hL : L ≤ 3072) (hsim : Sim_digest Rel) (hRel : Rel Mc Mm) (hW : Wd K A s (wC K a d Mc ++ wM K a2 Mm) H locs) (hl : lv_has ls 4 [(0, .ref b), (1, .ref (a 0)), (2, .ref (a2 0)), (3, .int (nI i))]) (hce : cells + 3 ≤ 600000) (hsl : slots + 1358 ≤ 7302250)
    (kk : ∀ (Mc1 Mm1 : Mem) (d : Nat → Nat) (H : Heap) (locs : List Loc), Rel Mc1 Mm1 → Wd K A s (wC K a d Mc1 ++ wM K a2 Mm1) H locs → W p l e room_1 s m args below meth c H locs (cells + 3) (slots + 1358) Q (F0 m 1930 ls [])) : W p l e room_1 s m args below meth c H locs cells slots Q (F0 m 1916 ls []) := by
  have hx := hF.1
  have hb := hF.2.1
  refine lv_aload_n hx hb dL_law_1916 rfl (lv_at hl 1 rfl) ?_
  obtain ⟨r, Mc1, Mm1, h1, h2, hRel1⟩ := hsim Mc Mm hRel
  obtain ⟨h1, rfl⟩ := h1
  obtain ⟨h2, rfl⟩ := h2
  refine cVf_l (ci := 11) (q0 := 0) (rest := []) hF hW mw_L_213 (c_X11_digest l K a d h1) ⟨by decide, by decide⟩ rfl rfl (pC_0 K a d _) rfl hl.1 rfl (Nat.le_of_ble_eq_true rfl) dL_law_1917 ⟨by dsimp only [room_1]; omega, by dsimp only [room_1]; omega⟩ (fun _ H locs hW => ?_)
  have hW := wd_comm hW
  refine lv_aload_n hx hb dL_law_1920 rfl (lv_at hl 2 rfl) ?_
  refine cVf_l (ci := 12) (q0 := 0) (rest := [.long r]) hF hW mw_L_216 (c_X12_digest l K a2 h2) ⟨by decide, by decide⟩ rfl rfl (pM_0 K a2 _) rfl hl.1 rfl (Nat.le_of_ble_eq_true rfl) dL_law_1921 ⟨by dsimp only [room_1]; omega, by dsimp only [room_1]; omega⟩ (fun _ H locs hW => ?_)
  have hW := wd_comm hW
  refine ll_eq (tgt := 1930) hx hb dL_law_1924 dL_law_1925 (by decide) (fun _ => ?_) (fun z => absurd rfl z)
  refine W.widen (k := cells + 3) (n := slots + 1358) (by dsimp only; omega) (by dsimp only; omega) ?_
  exact kk _ _ d _ _ hRel1 hW
end
