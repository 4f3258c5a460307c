set_option maxRecDepth 20000 in
theorem lc_0 {b L : Nat} {xs : Nat → Int32} {S : Shp} {cells slots i : Nat} {σ σ1 σ2 : Mm} {r : Int32} (hL : L ≤ 3584) (hi : i + 7 ≤ L) (hc0 : cells ≤ 600000) (hs0 : slots ≤ 7302250) (h1 : F_X11_feed (xs (nI i + 1).toNatClampNeg) (xs (nI i + 2).toNatClampNeg) (xs (nI i + 3).toNatClampNeg) (xs (nI i + 4).toNatClampNeg) (xs (nI i + 5).toNatClampNeg) σ = some (r, σ1)) (h2 : F_X12_feed (xs (nI i + 1).toNatClampNeg) (xs (nI i + 2).toNatClampNeg) (xs (nI i + 3).toNatClampNeg) (xs (nI i + 4).toNatClampNeg) (xs (nI i + 5).toNatClampNeg) σ1 = some (r, σ2)) (kk : ZL b L xs S cells slots 2124 [(0, .ref b), (1, .ref (sL S 0 0 0)), (2, .ref (sL S 3 0 0)), (3, .int (nI i))] [] σ2) : ZL b L xs S cells slots 224 [(0, .ref b), (1, .ref (sL S 0 0 0)), (2, .ref (sL S 3 0 0)), (3, .int (nI i))] [] σ := by
  refine y_aload_n dL_law_224 rfl 1 rfl ?_
  refine y_aload_n dL_law_225 rfl 0 rfl ?_
  refine y_iload_n dL_law_226 rfl 3 rfl ?_
  refine y_iconst (v := 1) dL_law_227 (by decide) ?_
  refine y_iadd dL_law_228 ?_
  refine y_sld (xin (k := 1) hi hL (by decide)) dL_law_229 ?_
  refine y_aload_n dL_law_230 rfl 0 rfl ?_
  refine y_iload_n dL_law_231 rfl 3 rfl ?_
  refine y_iconst (v := 2) dL_law_232 (by decide) ?_
  refine y_iadd dL_law_233 ?_
  refine y_sld (xin (k := 2) hi hL (by decide)) dL_law_234 ?_
  refine y_aload_n dL_law_235 rfl 0 rfl ?_
  refine y_iload_n dL_law_236 rfl 3 rfl ?_
  refine y_iconst (v := 3) dL_law_237 (by decide) ?_
  refine y_iadd dL_law_238 ?_
  refine y_sld (xin (k := 3) hi hL (by decide)) dL_law_239 ?_
  refine y_aload_n dL_law_240 rfl 0 rfl ?_
  refine y_iload_n dL_law_241 rfl 3 rfl ?_
  refine y_iconst (v := 4) dL_law_242 (by decide) ?_
  refine y_iadd dL_law_243 ?_
  refine y_sld (xin (k := 4) hi hL (by decide)) dL_law_244 ?_
  refine y_aload_n dL_law_245 rfl 0 rfl ?_
  refine y_iload_n dL_law_246 rfl 3 rfl ?_
  refine y_iconst (v := 5) dL_law_247 (by decide) ?_
  refine y_iadd dL_law_248 ?_
  refine y_sld (xin (k := 5) hi hL (by decide)) dL_law_249 ?_
  refine y_callV (M' := m_X11_feed) (t := 0) (i := 0) (k := 0) (As := [.int (xs (nI i + 1).toNatClampNeg), .int (xs (nI i + 2).toNatClampNeg), .int (xs (nI i + 3).toNatClampNeg), .int (xs (nI i + 4).toNatClampNeg), .int (xs (nI i + 5).toNatClampNeg)]) (rest := []) hc0 hs0 kl_L_13 oy_X11_feed ⟨Nat.le_of_ble_eq_true rfl, Nat.le_of_ble_eq_true rfl⟩ rfl rfl rfl rfl (Nat.le_of_ble_eq_true rfl) rfl dL_law_250 (c_X11_feed h1) (fun v τ hq => ?_)
  obtain ⟨rfl, hτ⟩ := hq
  subst τ
  change ZL _ _ _ _ _ _ _ _ [.int r] _
  refine y_aload_n dL_law_253 rfl 2 rfl ?_
  refine y_aload_n dL_law_254 rfl 0 rfl ?_
  refine y_iload_n dL_law_255 rfl 3 rfl ?_
  refine y_iconst (v := 1) dL_law_256 (by decide) ?_
  refine y_iadd dL_law_257 ?_
  refine y_sld (xin (k := 1) hi hL (by decide)) dL_law_258 ?_
  refine y_aload_n dL_law_259 rfl 0 rfl ?_
  refine y_iload_n dL_law_260 rfl 3 rfl ?_
  refine y_iconst (v := 2) dL_law_261 (by decide) ?_
  refine y_iadd dL_law_262 ?_
  refine y_sld (xin (k := 2) hi hL (by decide)) dL_law_263 ?_
  refine y_aload_n dL_law_264 rfl 0 rfl ?_
  refine y_iload_n dL_law_265 rfl 3 rfl ?_
  refine y_iconst (v := 3) dL_law_266 (by decide) ?_
  refine y_iadd dL_law_267 ?_
  refine y_sld (xin (k := 3) hi hL (by decide)) dL_law_268 ?_
  refine y_aload_n dL_law_269 rfl 0 rfl ?_
  refine y_iload_n dL_law_270 rfl 3 rfl ?_
  refine y_iconst (v := 4) dL_law_271 (by decide) ?_
  refine y_iadd dL_law_272 ?_
  refine y_sld (xin (k := 4) hi hL (by decide)) dL_law_273 ?_
  refine y_aload_n dL_law_274 rfl 0 rfl ?_
  refine y_iload_n dL_law_275 rfl 3 rfl ?_
  refine y_iconst (v := 5) dL_law_276 (by decide) ?_
  refine y_iadd dL_law_277 ?_
  refine y_sld (xin (k := 5) hi hL (by decide)) dL_law_278 ?_
  refine y_callV (M' := m_X12_feed) (t := 3) (i := 0) (k := 0) (As := [.int (xs (nI i + 1).toNatClampNeg), .int (xs (nI i + 2).toNatClampNeg), .int (xs (nI i + 3).toNatClampNeg), .int (xs (nI i + 4).toNatClampNeg), .int (xs (nI i + 5).toNatClampNeg)]) (rest := [.int r]) hc0 hs0 kl_L_17 oy_X12_feed ⟨Nat.le_of_ble_eq_true rfl, Nat.le_of_ble_eq_true rfl⟩ rfl rfl rfl rfl (Nat.le_of_ble_eq_true rfl) rfl dL_law_279 (c_X12_feed h2) (fun v τ hq => ?_)
  obtain ⟨rfl, hτ⟩ := hq
  subst τ
  change ZL _ _ _ _ _ _ _ _ [.int r, .int r] _
  refine y_icmp_eq (tgt := 2124) dL_law_282 (by decide) (fun _ => ?_) (fun q => ?_)
  · exact kk
  · exact absurd rfl q
set_option maxRecDepth 20000 in
theorem lc_1 {b L : Nat} {xs : Nat → Int32} {S : Shp} {cells slots i : Nat} {σ σ1 σ2 : Mm} {r : Int32} (hL : L ≤ 3584) (hi : i + 7 ≤ L) (hc0 : cells ≤ 600000) (hs0 : slots ≤ 7302250) (h1 : F_X11_back (xs (nI i + 1).toNatClampNeg) σ = some (r, σ1)) (h2 : F_X12_back (xs (nI i + 1).toNatClampNeg) σ1 = some (r, σ2)) (kk : ZL b L xs S cells slots 2124 [(0, .ref b), (1, .ref (sL S 0 0 0)), (2, .ref (sL S 3 0 0)), (3, .int (nI i))] [] σ2) : ZL b L xs S cells slots 287 [(0, .ref b), (1, .ref (sL S 0 0 0)), (2, .ref (sL S 3 0 0)), (3, .int (nI i))] [] σ := by
  refine y_aload_n dL_law_287 rfl 1 rfl ?_
  refine y_aload_n dL_law_288 rfl 0 rfl ?_
  refine y_iload_n dL_law_289 rfl 3 rfl ?_
  refine y_iconst (v := 1) dL_law_290 (by decide) ?_
  refine y_iadd dL_law_291 ?_
  refine y_sld (xin (k := 1) hi hL (by decide)) dL_law_292 ?_
  refine y_callV (M' := m_X11_back) (t := 0) (i := 0) (k := 0) (As := [.int (xs (nI i + 1).toNatClampNeg)]) (rest := []) hc0 hs0 kl_L_18 oy_X11_back ⟨Nat.le_of_ble_eq_true rfl, Nat.le_of_ble_eq_true rfl⟩ rfl rfl rfl rfl (Nat.le_of_ble_eq_true rfl) rfl dL_law_293 (c_X11_back h1) (fun v τ hq => ?_)
  obtain ⟨rfl, hτ⟩ := hq
  subst τ
  change ZL _ _ _ _ _ _ _ _ [.int r] _
  refine y_aload_n dL_law_296 rfl 2 rfl ?_
  refine y_aload_n dL_law_297 rfl 0 rfl ?_
  refine y_iload_n dL_law_298 rfl 3 rfl ?_
  refine y_iconst (v := 1) dL_law_299 (by decide) ?_
  refine y_iadd dL_law_300 ?_
  refine y_sld (xin (k := 1) hi hL (by decide)) dL_law_301 ?_
  refine y_callV (M' := m_X12_back) (t := 3) (i := 0) (k := 0) (As := [.int (xs (nI i + 1).toNatClampNeg)]) (rest := [.int r]) hc0 hs0 kl_L_22 oy_X12_back ⟨Nat.le_of_ble_eq_true rfl, Nat.le_of_ble_eq_true rfl⟩ rfl rfl rfl rfl (Nat.le_of_ble_eq_true rfl) rfl dL_law_302 (c_X12_back h2) (fun v τ hq => ?_)
  obtain ⟨rfl, hτ⟩ := hq
  subst τ
  change ZL _ _ _ _ _ _ _ _ [.int r, .int r] _
  refine y_icmp_eq (tgt := 2124) dL_law_305 (by decide) (fun _ => ?_) (fun q => ?_)
  · exact kk
  · exact absurd rfl q
set_option maxRecDepth 20000 in
theorem lc_2 {b L : Nat} {xs : Nat → Int32} {S : Shp} {cells slots i : Nat} {σ σ1 σ2 : Mm} {r : Int32} (hL : L ≤ 3584) (hi : i + 7 ≤ L) (hc0 : cells ≤ 600000) (hs0 : slots ≤ 7302250) (h1 : F_X11_read  σ = some (r, σ1)) (h2 : F_X12_read  σ1 = some (r, σ2)) (kk : ZL b L xs S cells slots 2124 [(0, .ref b), (1, .ref (sL S 0 0 0)), (2, .ref (sL S 3 0 0)), (3, .int (nI i))] [] σ2) : ZL b L xs S cells slots 310 [(0, .ref b), (1, .ref (sL S 0 0 0)), (2, .ref (sL S 3 0 0)), (3, .int (nI i))] [] σ := by
  refine y_aload_n dL_law_310 rfl 1 rfl ?_
  refine y_callV (M' := m_X11_read) (t := 0) (i := 0) (k := 0) (As := []) (rest := []) hc0 hs0 kl_L_23 oy_X11_read ⟨Nat.le_of_ble_eq_true rfl, Nat.le_of_ble_eq_true rfl⟩ rfl rfl rfl rfl (Nat.le_of_ble_eq_true rfl) rfl dL_law_311 (c_X11_read h1) (fun v τ hq => ?_)
  obtain ⟨rfl, hτ⟩ := hq
  subst τ
  change ZL _ _ _ _ _ _ _ _ [.int r] _
  refine y_aload_n dL_law_314 rfl 2 rfl ?_
  refine y_callV (M' := m_X12_read) (t := 3) (i := 0) (k := 0) (As := []) (rest := [.int r]) hc0 hs0 kl_L_27 oy_X12_read ⟨Nat.le_of_ble_eq_true rfl, Nat.le_of_ble_eq_true rfl⟩ rfl rfl rfl rfl (Nat.le_of_ble_eq_true rfl) rfl dL_law_315 (c_X12_read h2) (fun v τ hq => ?_)
  obtain ⟨rfl, hτ⟩ := hq
  subst τ
  change ZL _ _ _ _ _ _ _ _ [.int r, .int r] _
  refine y_icmp_eq (tgt := 2124) dL_law_318 (by decide) (fun _ => ?_) (fun q => ?_)
  · exact kk
  · exact absurd rfl q
set_option maxRecDepth 20000 in
theorem lc_3 {b L : Nat} {xs : Nat → Int32} {S : Shp} {cells slots i : Nat} {σ σ1 σ2 : Mm} {r : Int32} (hL : L ≤ 3584) (hi : i + 7 ≤ L) (hc0 : cells ≤ 600000) (hs0 : slots ≤ 7302250) (h1 : f_X11_place  σ = r) (hp1 : okP σ = true) (h2 : f_X12_place  σ = r) (hp2 : okP σ = true) (kk : ZL b L xs S cells slots 2124 [(0, .ref b), (1, .ref (sL S 0 0 0)), (2, .ref (sL S 3 0 0)), (3, .int (nI i))] [] σ) : ZL b L xs S cells slots 323 [(0, .ref b), (1, .ref (sL S 0 0 0)), (2, .ref (sL S 3 0 0)), (3, .int (nI i))] [] σ := by
  refine y_aload_n dL_law_323 rfl 1 rfl ?_
  refine y_callV (M' := m_X11_place) (t := 0) (i := 0) (k := 0) (As := []) (rest := []) hc0 hs0 kl_L_28 oy_X11_place ⟨Nat.le_of_ble_eq_true rfl, Nat.le_of_ble_eq_true rfl⟩ rfl rfl rfl rfl (Nat.le_of_ble_eq_true rfl) rfl dL_law_324 (c_X11_place hp1 h1) (fun v τ hq => ?_)
  obtain ⟨rfl, hτ⟩ := hq
  subst τ
  change ZL _ _ _ _ _ _ _ _ [.int r] _
  refine y_aload_n dL_law_327 rfl 2 rfl ?_
  refine y_callV (M' := m_X12_place) (t := 3) (i := 0) (k := 0) (As := []) (rest := [.int r]) hc0 hs0 kl_L_31 oy_X12_place ⟨Nat.le_of_ble_eq_true rfl, Nat.le_of_ble_eq_true rfl⟩ rfl rfl rfl rfl (Nat.le_of_ble_eq_true rfl) rfl dL_law_328 (c_X12_place hp2 h2) (fun v τ hq => ?_)
  obtain ⟨rfl, hτ⟩ := hq
  subst τ
  change ZL _ _ _ _ _ _ _ _ [.int r, .int r] _
  refine y_icmp_eq (tgt := 2124) dL_law_331 (by decide) (fun _ => ?_) (fun q => ?_)
  · exact kk
  · exact absurd rfl q
set_option maxRecDepth 20000 in
theorem lc_4 {b L : Nat} {xs : Nat → Int32} {S : Shp} {cells slots i : Nat} {σ σ1 σ2 : Mm} {r : Int32} (hL : L ≤ 3584) (hi : i + 7 ≤ L) (hc0 : cells ≤ 600000) (hs0 : slots ≤ 7302250) (h1 : F_X11_found (xs (nI i + 1).toNatClampNeg) (xs (nI i + 2).toNatClampNeg) (xs (nI i + 3).toNatClampNeg) σ = some (r, σ1)) (h2 : F_X12_found (xs (nI i + 1).toNatClampNeg) (xs (nI i + 2).toNatClampNeg) (xs (nI i + 3).toNatClampNeg) σ1 = some (r, σ2)) (kk : ZL b L xs S cells slots 2124 [(0, .ref b), (1, .ref (sL S 0 0 0)), (2, .ref (sL S 3 0 0)), (3, .int (nI i))] [] σ2) : ZL b L xs S cells slots 336 [(0, .ref b), (1, .ref (sL S 0 0 0)), (2, .ref (sL S 3 0 0)), (3, .int (nI i))] [] σ := by
  refine y_aload_n dL_law_336 rfl 1 rfl ?_
  refine y_aload_n dL_law_337 rfl 0 rfl ?_
  refine y_iload_n dL_law_338 rfl 3 rfl ?_
  refine y_iconst (v := 1) dL_law_339 (by decide) ?_
  refine y_iadd dL_law_340 ?_
  refine y_sld (xin (k := 1) hi hL (by decide)) dL_law_341 ?_
  refine y_aload_n dL_law_342 rfl 0 rfl ?_
  refine y_iload_n dL_law_343 rfl 3 rfl ?_
  refine y_iconst (v := 2) dL_law_344 (by decide) ?_
  refine y_iadd dL_law_345 ?_
  refine y_sld (xin (k := 2) hi hL (by decide)) dL_law_346 ?_
  refine y_aload_n dL_law_347 rfl 0 rfl ?_
  refine y_iload_n dL_law_348 rfl 3 rfl ?_
  refine y_iconst (v := 3) dL_law_349 (by decide) ?_
  refine y_iadd dL_law_350 ?_
  refine y_sld (xin (k := 3) hi hL (by decide)) dL_law_351 ?_
  refine y_callV (M' := m_X11_found) (t := 0) (i := 0) (k := 0) (As := [.int (xs (nI i + 1).toNatClampNeg), .int (xs (nI i + 2).toNatClampNeg), .int (xs (nI i + 3).toNatClampNeg)]) (rest := []) hc0 hs0 kl_L_32 oy_X11_found ⟨Nat.le_of_ble_eq_true rfl, Nat.le_of_ble_eq_true rfl⟩ rfl rfl rfl rfl (Nat.le_of_ble_eq_true rfl) rfl dL_law_352 (c_X11_found h1) (fun v τ hq => ?_)
  obtain ⟨rfl, hτ⟩ := hq
  subst τ
  change ZL _ _ _ _ _ _ _ _ [.int r] _
  refine y_aload_n dL_law_355 rfl 2 rfl ?_
  refine y_aload_n dL_law_356 rfl 0 rfl ?_
  refine y_iload_n dL_law_357 rfl 3 rfl ?_
  refine y_iconst (v := 1) dL_law_358 (by decide) ?_
  refine y_iadd dL_law_359 ?_
  refine y_sld (xin (k := 1) hi hL (by decide)) dL_law_360 ?_
  refine y_aload_n dL_law_361 rfl 0 rfl ?_
  refine y_iload_n dL_law_362 rfl 3 rfl ?_
  refine y_iconst (v := 2) dL_law_363 (by decide) ?_
  refine y_iadd dL_law_364 ?_
  refine y_sld (xin (k := 2) hi hL (by decide)) dL_law_365 ?_
  refine y_aload_n dL_law_366 rfl 0 rfl ?_
  refine y_iload_n dL_law_367 rfl 3 rfl ?_
  refine y_iconst (v := 3) dL_law_368 (by decide) ?_
  refine y_iadd dL_law_369 ?_
  refine y_sld (xin (k := 3) hi hL (by decide)) dL_law_370 ?_
  refine y_callV (M' := m_X12_found) (t := 3) (i := 0) (k := 0) (As := [.int (xs (nI i + 1).toNatClampNeg), .int (xs (nI i + 2).toNatClampNeg), .int (xs (nI i + 3).toNatClampNeg)]) (rest := [.int r]) hc0 hs0 kl_L_36 oy_X12_found ⟨Nat.le_of_ble_eq_true rfl, Nat.le_of_ble_eq_true rfl⟩ rfl rfl rfl rfl (Nat.le_of_ble_eq_true rfl) rfl dL_law_371 (c_X12_found h2) (fun v τ hq => ?_)
  obtain ⟨rfl, hτ⟩ := hq
  subst τ
  change ZL _ _ _ _ _ _ _ _ [.int r, .int r] _
  refine y_icmp_eq (tgt := 2124) dL_law_374 (by decide) (fun _ => ?_) (fun q => ?_)
  · exact kk
  · exact absurd rfl q
set_option maxRecDepth 20000 in
theorem lc_5 {b L : Nat} {xs : Nat → Int32} {S : Shp} {cells slots i : Nat} {σ σ1 σ2 : Mm} {r : Int32} (hL : L ≤ 3584) (hi : i + 7 ≤ L) (hc0 : cells ≤ 600000) (hs0 : slots ≤ 7302250) (h1 : F_X11_move (xs (nI i + 1).toNatClampNeg) (xs (nI i + 2).toNatClampNeg) (xs (nI i + 3).toNatClampNeg) σ = some (r, σ1)) (h2 : F_X12_move (xs (nI i + 1).toNatClampNeg) (xs (nI i + 2).toNatClampNeg) (xs (nI i + 3).toNatClampNeg) σ1 = some (r, σ2)) (kk : ZL b L xs S cells slots 2124 [(0, .ref b), (1, .ref (sL S 0 0 0)), (2, .ref (sL S 3 0 0)), (3, .int (nI i))] [] σ2) : ZL b L xs S cells slots 379 [(0, .ref b), (1, .ref (sL S 0 0 0)), (2, .ref (sL S 3 0 0)), (3, .int (nI i))] [] σ := by
  refine y_aload_n dL_law_379 rfl 1 rfl ?_
  refine y_aload_n dL_law_380 rfl 0 rfl ?_
  refine y_iload_n dL_law_381 rfl 3 rfl ?_
  refine y_iconst (v := 1) dL_law_382 (by decide) ?_
  refine y_iadd dL_law_383 ?_
  refine y_sld (xin (k := 1) hi hL (by decide)) dL_law_384 ?_
  refine y_aload_n dL_law_385 rfl 0 rfl ?_
  refine y_iload_n dL_law_386 rfl 3 rfl ?_
  refine y_iconst (v := 2) dL_law_387 (by decide) ?_
  refine y_iadd dL_law_388 ?_
  refine y_sld (xin (k := 2) hi hL (by decide)) dL_law_389 ?_
  refine y_aload_n dL_law_390 rfl 0 rfl ?_
  refine y_iload_n dL_law_391 rfl 3 rfl ?_
  refine y_iconst (v := 3) dL_law_392 (by decide) ?_
  refine y_iadd dL_law_393 ?_
  refine y_sld (xin (k := 3) hi hL (by decide)) dL_law_394 ?_
  refine y_callV (M' := m_X11_move) (t := 0) (i := 0) (k := 0) (As := [.int (xs (nI i + 1).toNatClampNeg), .int (xs (nI i + 2).toNatClampNeg), .int (xs (nI i + 3).toNatClampNeg)]) (rest := []) hc0 hs0 kl_L_37 oy_X11_move ⟨Nat.le_of_ble_eq_true rfl, Nat.le_of_ble_eq_true rfl⟩ rfl rfl rfl rfl (Nat.le_of_ble_eq_true rfl) rfl dL_law_395 (c_X11_move h1) (fun v τ hq => ?_)
  obtain ⟨rfl, hτ⟩ := hq
  subst τ
  change ZL _ _ _ _ _ _ _ _ [.int r] _
  refine y_aload_n dL_law_398 rfl 2 rfl ?_
  refine y_aload_n dL_law_399 rfl 0 rfl ?_
  refine y_iload_n dL_law_400 rfl 3 rfl ?_
  refine y_iconst (v := 1) dL_law_401 (by decide) ?_
  refine y_iadd dL_law_402 ?_
  refine y_sld (xin (k := 1) hi hL (by decide)) dL_law_403 ?_
  refine y_aload_n dL_law_404 rfl 0 rfl ?_
  refine y_iload_n dL_law_405 rfl 3 rfl ?_
  refine y_iconst (v := 2) dL_law_406 (by decide) ?_
  refine y_iadd dL_law_407 ?_
  refine y_sld (xin (k := 2) hi hL (by decide)) dL_law_408 ?_
  refine y_aload_n dL_law_409 rfl 0 rfl ?_
  refine y_iload_n dL_law_410 rfl 3 rfl ?_
  refine y_iconst (v := 3) dL_law_411 (by decide) ?_
  refine y_iadd dL_law_412 ?_
  refine y_sld (xin (k := 3) hi hL (by decide)) dL_law_413 ?_
  refine y_callV (M' := m_X12_move) (t := 3) (i := 0) (k := 0) (As := [.int (xs (nI i + 1).toNatClampNeg), .int (xs (nI i + 2).toNatClampNeg), .int (xs (nI i + 3).toNatClampNeg)]) (rest := [.int r]) hc0 hs0 kl_L_40 oy_X12_move ⟨Nat.le_of_ble_eq_true rfl, Nat.le_of_ble_eq_true rfl⟩ rfl rfl rfl rfl (Nat.le_of_ble_eq_true rfl) rfl dL_law_414 (c_X12_move h2) (fun v τ hq => ?_)
  obtain ⟨rfl, hτ⟩ := hq
  subst τ
  change ZL _ _ _ _ _ _ _ _ [.int r, .int r] _
  refine y_icmp_eq (tgt := 2124) dL_law_417 (by decide) (fun _ => ?_) (fun q => ?_)
  · exact kk
  · exact absurd rfl q
set_option maxRecDepth 20000 in
theorem lc_6 {b L : Nat} {xs : Nat → Int32} {S : Shp} {cells slots i : Nat} {σ σ1 σ2 : Mm} {r : Int32} (hL : L ≤ 3584) (hi : i + 7 ≤ L) (hc0 : cells ≤ 600000) (hs0 : slots ≤ 7302250) (h1 : F_X11_gone (xs (nI i + 1).toNatClampNeg) σ = some (r, σ1)) (h2 : F_X12_gone (xs (nI i + 1).toNatClampNeg) σ1 = some (r, σ2)) (kk : ZL b L xs S cells slots 2124 [(0, .ref b), (1, .ref (sL S 0 0 0)), (2, .ref (sL S 3 0 0)), (3, .int (nI i))] [] σ2) : ZL b L xs S cells slots 422 [(0, .ref b), (1, .ref (sL S 0 0 0)), (2, .ref (sL S 3 0 0)), (3, .int (nI i))] [] σ := by
  refine y_aload_n dL_law_422 rfl 1 rfl ?_
  refine y_aload_n dL_law_423 rfl 0 rfl ?_
  refine y_iload_n dL_law_424 rfl 3 rfl ?_
  refine y_iconst (v := 1) dL_law_425 (by decide) ?_
  refine y_iadd dL_law_426 ?_
  refine y_sld (xin (k := 1) hi hL (by decide)) dL_law_427 ?_
  refine y_callV (M' := m_X11_gone) (t := 0) (i := 0) (k := 0) (As := [.int (xs (nI i + 1).toNatClampNeg)]) (rest := []) hc0 hs0 kl_L_41 oy_X11_gone ⟨Nat.le_of_ble_eq_true rfl, Nat.le_of_ble_eq_true rfl⟩ rfl rfl rfl rfl (Nat.le_of_ble_eq_true rfl) rfl dL_law_428 (c_X11_gone h1) (fun v τ hq => ?_)
  obtain ⟨rfl, hτ⟩ := hq
  subst τ
  change ZL _ _ _ _ _ _ _ _ [.int r] _
  refine y_aload_n dL_law_431 rfl 2 rfl ?_
  refine y_aload_n dL_law_432 rfl 0 rfl ?_
  refine y_iload_n dL_law_433 rfl 3 rfl ?_
  refine y_iconst (v := 1) dL_law_434 (by decide) ?_
  refine y_iadd dL_law_435 ?_
  refine y_sld (xin (k := 1) hi hL (by decide)) dL_law_436 ?_
  refine y_callV (M' := m_X12_gone) (t := 3) (i := 0) (k := 0) (As := [.int (xs (nI i + 1).toNatClampNeg)]) (rest := [.int r]) hc0 hs0 kl_L_44 oy_X12_gone ⟨Nat.le_of_ble_eq_true rfl, Nat.le_of_ble_eq_true rfl⟩ rfl rfl rfl rfl (Nat.le_of_ble_eq_true rfl) rfl dL_law_437 (c_X12_gone h2) (fun v τ hq => ?_)
  obtain ⟨rfl, hτ⟩ := hq
  subst τ
  change ZL _ _ _ _ _ _ _ _ [.int r, .int r] _
  refine y_icmp_eq (tgt := 2124) dL_law_440 (by decide) (fun _ => ?_) (fun q => ?_)
  · exact kk
  · exact absurd rfl q
set_option maxRecDepth 20000 in
theorem lc_7 {b L : Nat} {xs : Nat → Int32} {S : Shp} {cells slots i : Nat} {σ σ1 σ2 : Mm} {r : Int32} (hL : L ≤ 3584) (hi : i + 7 ≤ L) (hc0 : cells ≤ 600000) (hs0 : slots ≤ 7302250) (h1 : F_X11_date (xs (nI i + 1).toNatClampNeg) (xs (nI i + 2).toNatClampNeg) σ = some (r, σ1)) (h2 : F_X12_date (xs (nI i + 1).toNatClampNeg) (xs (nI i + 2).toNatClampNeg) σ1 = some (r, σ2)) (kk : ZL b L xs S cells slots 2124 [(0, .ref b), (1, .ref (sL S 0 0 0)), (2, .ref (sL S 3 0 0)), (3, .int (nI i))] [] σ2) : ZL b L xs S cells slots 445 [(0, .ref b), (1, .ref (sL S 0 0 0)), (2, .ref (sL S 3 0 0)), (3, .int (nI i))] [] σ := by
  refine y_aload_n dL_law_445 rfl 1 rfl ?_
  refine y_aload_n dL_law_446 rfl 0 rfl ?_
  refine y_iload_n dL_law_447 rfl 3 rfl ?_
  refine y_iconst (v := 1) dL_law_448 (by decide) ?_
  refine y_iadd dL_law_449 ?_
  refine y_sld (xin (k := 1) hi hL (by decide)) dL_law_450 ?_
  refine y_aload_n dL_law_451 rfl 0 rfl ?_
  refine y_iload_n dL_law_452 rfl 3 rfl ?_
  refine y_iconst (v := 2) dL_law_453 (by decide) ?_
  refine y_iadd dL_law_454 ?_
  refine y_sld (xin (k := 2) hi hL (by decide)) dL_law_455 ?_
  refine y_callV (M' := m_X11_date) (t := 0) (i := 0) (k := 0) (As := [.int (xs (nI i + 1).toNatClampNeg), .int (xs (nI i + 2).toNatClampNeg)]) (rest := []) hc0 hs0 kl_L_45 oy_X11_date ⟨Nat.le_of_ble_eq_true rfl, Nat.le_of_ble_eq_true rfl⟩ rfl rfl rfl rfl (Nat.le_of_ble_eq_true rfl) rfl dL_law_456 (c_X11_date h1) (fun v τ hq => ?_)
  obtain ⟨rfl, hτ⟩ := hq
  subst τ
  change ZL _ _ _ _ _ _ _ _ [.int r] _
  refine y_aload_n dL_law_459 rfl 2 rfl ?_
  refine y_aload_n dL_law_460 rfl 0 rfl ?_
  refine y_iload_n dL_law_461 rfl 3 rfl ?_
  refine y_iconst (v := 1) dL_law_462 (by decide) ?_
  refine y_iadd dL_law_463 ?_
  refine y_sld (xin (k := 1) hi hL (by decide)) dL_law_464 ?_
  refine y_aload_n dL_law_465 rfl 0 rfl ?_
  refine y_iload_n dL_law_466 rfl 3 rfl ?_
  refine y_iconst (v := 2) dL_law_467 (by decide) ?_
  refine y_iadd dL_law_468 ?_
  refine y_sld (xin (k := 2) hi hL (by decide)) dL_law_469 ?_
  refine y_callV (M' := m_X12_date) (t := 3) (i := 0) (k := 0) (As := [.int (xs (nI i + 1).toNatClampNeg), .int (xs (nI i + 2).toNatClampNeg)]) (rest := [.int r]) hc0 hs0 kl_L_49 oy_X12_date ⟨Nat.le_of_ble_eq_true rfl, Nat.le_of_ble_eq_true rfl⟩ rfl rfl rfl rfl (Nat.le_of_ble_eq_true rfl) rfl dL_law_470 (c_X12_date h2) (fun v τ hq => ?_)
  obtain ⟨rfl, hτ⟩ := hq
  subst τ
  change ZL _ _ _ _ _ _ _ _ [.int r, .int r] _
  refine y_icmp_eq (tgt := 2124) dL_law_473 (by decide) (fun _ => ?_) (fun q => ?_)
  · exact kk
  · exact absurd rfl q
set_option maxRecDepth 20000 in
theorem lc_8 {b L : Nat} {xs : Nat → Int32} {S : Shp} {cells slots i : Nat} {σ σ1 σ2 : Mm} {r : Int32} (hL : L ≤ 3584) (hi : i + 7 ≤ L) (hc0 : cells ≤ 600000) (hs0 : slots ≤ 7302250) (h1 : F_X11_annul (xs (nI i + 1).toNatClampNeg) σ = some (r, σ1)) (h2 : F_X12_annul (xs (nI i + 1).toNatClampNeg) σ1 = some (r, σ2)) (kk : ZL b L xs S cells slots 2124 [(0, .ref b), (1, .ref (sL S 0 0 0)), (2, .ref (sL S 3 0 0)), (3, .int (nI i))] [] σ2) : ZL b L xs S cells slots 478 [(0, .ref b), (1, .ref (sL S 0 0 0)), (2, .ref (sL S 3 0 0)), (3, .int (nI i))] [] σ := by
  refine y_aload_n dL_law_478 rfl 1 rfl ?_
  refine y_aload_n dL_law_479 rfl 0 rfl ?_
  refine y_iload_n dL_law_480 rfl 3 rfl ?_
  refine y_iconst (v := 1) dL_law_481 (by decide) ?_
  refine y_iadd dL_law_482 ?_
  refine y_sld (xin (k := 1) hi hL (by decide)) dL_law_483 ?_
  refine y_callV (M' := m_X11_annul) (t := 0) (i := 0) (k := 0) (As := [.int (xs (nI i + 1).toNatClampNeg)]) (rest := []) hc0 hs0 kl_L_50 oy_X11_annul ⟨Nat.le_of_ble_eq_true rfl, Nat.le_of_ble_eq_true rfl⟩ rfl rfl rfl rfl (Nat.le_of_ble_eq_true rfl) rfl dL_law_484 (c_X11_annul h1) (fun v τ hq => ?_)
  obtain ⟨rfl, hτ⟩ := hq
  subst τ
  change ZL _ _ _ _ _ _ _ _ [.int r] _
  refine y_aload_n dL_law_487 rfl 2 rfl ?_
  refine y_aload_n dL_law_488 rfl 0 rfl ?_
  refine y_iload_n dL_law_489 rfl 3 rfl ?_
  refine y_iconst (v := 1) dL_law_490 (by decide) ?_
  refine y_iadd dL_law_491 ?_
  refine y_sld (xin (k := 1) hi hL (by decide)) dL_law_492 ?_
  refine y_callV (M' := m_X12_annul) (t := 3) (i := 0) (k := 0) (As := [.int (xs (nI i + 1).toNatClampNeg)]) (rest := [.int r]) hc0 hs0 kl_L_53 oy_X12_annul ⟨Nat.le_of_ble_eq_true rfl, Nat.le_of_ble_eq_true rfl⟩ rfl rfl rfl rfl (Nat.le_of_ble_eq_true rfl) rfl dL_law_493 (c_X12_annul h2) (fun v τ hq => ?_)
  obtain ⟨rfl, hτ⟩ := hq
  subst τ
  change ZL _ _ _ _ _ _ _ _ [.int r, .int r] _
  refine y_icmp_eq (tgt := 2124) dL_law_496 (by decide) (fun _ => ?_) (fun q => ?_)
  · exact kk
  · exact absurd rfl q
set_option maxRecDepth 20000 in
theorem lc_9 {b L : Nat} {xs : Nat → Int32} {S : Shp} {cells slots i : Nat} {σ σ1 σ2 : Mm} {r : Int32} (hL : L ≤ 3584) (hi : i + 7 ≤ L) (hc0 : cells ≤ 600000) (hs0 : slots ≤ 7302250) (h1 : F_X11_thing (xs (nI i + 1).toNatClampNeg) (xs (nI i + 2).toNatClampNeg) (xs (nI i + 3).toNatClampNeg) σ = some (r, σ1)) (h2 : F_X12_thing (xs (nI i + 1).toNatClampNeg) (xs (nI i + 2).toNatClampNeg) (xs (nI i + 3).toNatClampNeg) σ1 = some (r, σ2)) (kk : ZL b L xs S cells slots 2124 [(0, .ref b), (1, .ref (sL S 0 0 0)), (2, .ref (sL S 3 0 0)), (3, .int (nI i))] [] σ2) : ZL b L xs S cells slots 501 [(0, .ref b), (1, .ref (sL S 0 0 0)), (2, .ref (sL S 3 0 0)), (3, .int (nI i))] [] σ := by
  refine y_aload_n dL_law_501 rfl 1 rfl ?_
  refine y_aload_n dL_law_502 rfl 0 rfl ?_
  refine y_iload_n dL_law_503 rfl 3 rfl ?_
  refine y_iconst (v := 1) dL_law_504 (by decide) ?_
  refine y_iadd dL_law_505 ?_
  refine y_sld (xin (k := 1) hi hL (by decide)) dL_law_506 ?_
  refine y_aload_n dL_law_507 rfl 0 rfl ?_
  refine y_iload_n dL_law_508 rfl 3 rfl ?_
  refine y_iconst (v := 2) dL_law_509 (by decide) ?_
  refine y_iadd dL_law_510 ?_
  refine y_sld (xin (k := 2) hi hL (by decide)) dL_law_511 ?_
  refine y_aload_n dL_law_512 rfl 0 rfl ?_
  refine y_iload_n dL_law_513 rfl 3 rfl ?_
  refine y_iconst (v := 3) dL_law_514 (by decide) ?_
  refine y_iadd dL_law_515 ?_
  refine y_sld (xin (k := 3) hi hL (by decide)) dL_law_516 ?_
  refine y_callV (M' := m_X11_thing) (t := 0) (i := 0) (k := 0) (As := [.int (xs (nI i + 1).toNatClampNeg), .int (xs (nI i + 2).toNatClampNeg), .int (xs (nI i + 3).toNatClampNeg)]) (rest := []) hc0 hs0 kl_L_54 oy_X11_thing ⟨Nat.le_of_ble_eq_true rfl, Nat.le_of_ble_eq_true rfl⟩ rfl rfl rfl rfl (Nat.le_of_ble_eq_true rfl) rfl dL_law_517 (c_X11_thing h1) (fun v τ hq => ?_)
  obtain ⟨rfl, hτ⟩ := hq
  subst τ
  change ZL _ _ _ _ _ _ _ _ [.int r] _
  refine y_aload_n dL_law_520 rfl 2 rfl ?_
  refine y_aload_n dL_law_521 rfl 0 rfl ?_
  refine y_iload_n dL_law_522 rfl 3 rfl ?_
  refine y_iconst (v := 1) dL_law_523 (by decide) ?_
  refine y_iadd dL_law_524 ?_
  refine y_sld (xin (k := 1) hi hL (by decide)) dL_law_525 ?_
  refine y_aload_n dL_law_526 rfl 0 rfl ?_
  refine y_iload_n dL_law_527 rfl 3 rfl ?_
  refine y_iconst (v := 2) dL_law_528 (by decide) ?_
  refine y_iadd dL_law_529 ?_
  refine y_sld (xin (k := 2) hi hL (by decide)) dL_law_530 ?_
  refine y_aload_n dL_law_531 rfl 0 rfl ?_
  refine y_iload_n dL_law_532 rfl 3 rfl ?_
  refine y_iconst (v := 3) dL_law_533 (by decide) ?_
  refine y_iadd dL_law_534 ?_
  refine y_sld (xin (k := 3) hi hL (by decide)) dL_law_535 ?_
  refine y_callV (M' := m_X12_thing) (t := 3) (i := 0) (k := 0) (As := [.int (xs (nI i + 1).toNatClampNeg), .int (xs (nI i + 2).toNatClampNeg), .int (xs (nI i + 3).toNatClampNeg)]) (rest := [.int r]) hc0 hs0 kl_L_57 oy_X12_thing ⟨Nat.le_of_ble_eq_true rfl, Nat.le_of_ble_eq_true rfl⟩ rfl rfl rfl rfl (Nat.le_of_ble_eq_true rfl) rfl dL_law_536 (c_X12_thing h2) (fun v τ hq => ?_)
  obtain ⟨rfl, hτ⟩ := hq
  subst τ
  change ZL _ _ _ _ _ _ _ _ [.int r, .int r] _
  refine y_icmp_eq (tgt := 2124) dL_law_539 (by decide) (fun _ => ?_) (fun q => ?_)
  · exact kk
  · exact absurd rfl q
set_option maxRecDepth 20000 in
theorem lc_10 {b L : Nat} {xs : Nat → Int32} {S : Shp} {cells slots i : Nat} {σ σ1 σ2 : Mm} {r : Int32} (hL : L ≤ 3584) (hi : i + 7 ≤ L) (hc0 : cells ≤ 600000) (hs0 : slots ≤ 7302250) (h1 : F_X11_degree (xs (nI i + 1).toNatClampNeg) (xs (nI i + 2).toNatClampNeg) σ = some (r, σ1)) (h2 : F_X12_degree (xs (nI i + 1).toNatClampNeg) (xs (nI i + 2).toNatClampNeg) σ1 = some (r, σ2)) (kk : ZL b L xs S cells slots 2124 [(0, .ref b), (1, .ref (sL S 0 0 0)), (2, .ref (sL S 3 0 0)), (3, .int (nI i))] [] σ2) : ZL b L xs S cells slots 544 [(0, .ref b), (1, .ref (sL S 0 0 0)), (2, .ref (sL S 3 0 0)), (3, .int (nI i))] [] σ := by
  refine y_aload_n dL_law_544 rfl 1 rfl ?_
  refine y_aload_n dL_law_545 rfl 0 rfl ?_
  refine y_iload_n dL_law_546 rfl 3 rfl ?_
  refine y_iconst (v := 1) dL_law_547 (by decide) ?_
  refine y_iadd dL_law_548 ?_
  refine y_sld (xin (k := 1) hi hL (by decide)) dL_law_549 ?_
  refine y_aload_n dL_law_550 rfl 0 rfl ?_
  refine y_iload_n dL_law_551 rfl 3 rfl ?_
  refine y_iconst (v := 2) dL_law_552 (by decide) ?_
  refine y_iadd dL_law_553 ?_
  refine y_sld (xin (k := 2) hi hL (by decide)) dL_law_554 ?_
  refine y_callV (M' := m_X11_degree) (t := 0) (i := 0) (k := 0) (As := [.int (xs (nI i + 1).toNatClampNeg), .int (xs (nI i + 2).toNatClampNeg)]) (rest := []) hc0 hs0 kl_L_58 oy_X11_degree ⟨Nat.le_of_ble_eq_true rfl, Nat.le_of_ble_eq_true rfl⟩ rfl rfl rfl rfl (Nat.le_of_ble_eq_true rfl) rfl dL_law_555 (c_X11_degree h1) (fun v τ hq => ?_)
  obtain ⟨rfl, hτ⟩ := hq
  subst τ
  change ZL _ _ _ _ _ _ _ _ [.int r] _
  refine y_aload_n dL_law_558 rfl 2 rfl ?_
  refine y_aload_n dL_law_559 rfl 0 rfl ?_
  refine y_iload_n dL_law_560 rfl 3 rfl ?_
  refine y_iconst (v := 1) dL_law_561 (by decide) ?_
  refine y_iadd dL_law_562 ?_
  refine y_sld (xin (k := 1) hi hL (by decide)) dL_law_563 ?_
  refine y_aload_n dL_law_564 rfl 0 rfl ?_
  refine y_iload_n dL_law_565 rfl 3 rfl ?_
  refine y_iconst (v := 2) dL_law_566 (by decide) ?_
  refine y_iadd dL_law_567 ?_
  refine y_sld (xin (k := 2) hi hL (by decide)) dL_law_568 ?_
  refine y_callV (M' := m_X12_degree) (t := 3) (i := 0) (k := 0) (As := [.int (xs (nI i + 1).toNatClampNeg), .int (xs (nI i + 2).toNatClampNeg)]) (rest := [.int r]) hc0 hs0 kl_L_61 oy_X12_degree ⟨Nat.le_of_ble_eq_true rfl, Nat.le_of_ble_eq_true rfl⟩ rfl rfl rfl rfl (Nat.le_of_ble_eq_true rfl) rfl dL_law_569 (c_X12_degree h2) (fun v τ hq => ?_)
  obtain ⟨rfl, hτ⟩ := hq
  subst τ
  change ZL _ _ _ _ _ _ _ _ [.int r, .int r] _
  refine y_icmp_eq (tgt := 2124) dL_law_572 (by decide) (fun _ => ?_) (fun q => ?_)
  · exact kk
  · exact absurd rfl q
set_option maxRecDepth 20000 in
theorem lc_11 {b L : Nat} {xs : Nat → Int32} {S : Shp} {cells slots i : Nat} {σ σ1 σ2 : Mm} {r : Int32} (hL : L ≤ 3584) (hi : i + 7 ≤ L) (hc0 : cells ≤ 600000) (hs0 : slots ≤ 7302250) (h1 : f_X11_vector (xs (nI i + 1).toNatClampNeg) (xs (nI i + 2).toNatClampNeg) σ = r) (hp1 : okP σ = true) (h2 : f_X12_vector (xs (nI i + 1).toNatClampNeg) (xs (nI i + 2).toNatClampNeg) σ = r) (hp2 : okP σ = true) (kk : ZL b L xs S cells slots 2124 [(0, .ref b), (1, .ref (sL S 0 0 0)), (2, .ref (sL S 3 0 0)), (3, .int (nI i))] [] σ) : ZL b L xs S cells slots 577 [(0, .ref b), (1, .ref (sL S 0 0 0)), (2, .ref (sL S 3 0 0)), (3, .int (nI i))] [] σ := by
  refine y_aload_n dL_law_577 rfl 1 rfl ?_
  refine y_aload_n dL_law_578 rfl 0 rfl ?_
  refine y_iload_n dL_law_579 rfl 3 rfl ?_
  refine y_iconst (v := 1) dL_law_580 (by decide) ?_
  refine y_iadd dL_law_581 ?_
  refine y_sld (xin (k := 1) hi hL (by decide)) dL_law_582 ?_
  refine y_aload_n dL_law_583 rfl 0 rfl ?_
  refine y_iload_n dL_law_584 rfl 3 rfl ?_
  refine y_iconst (v := 2) dL_law_585 (by decide) ?_
  refine y_iadd dL_law_586 ?_
  refine y_sld (xin (k := 2) hi hL (by decide)) dL_law_587 ?_
  refine y_callV (M' := m_X11_vector) (t := 0) (i := 0) (k := 0) (As := [.int (xs (nI i + 1).toNatClampNeg), .int (xs (nI i + 2).toNatClampNeg)]) (rest := []) hc0 hs0 kl_L_62 oy_X11_vector ⟨Nat.le_of_ble_eq_true rfl, Nat.le_of_ble_eq_true rfl⟩ rfl rfl rfl rfl (Nat.le_of_ble_eq_true rfl) rfl dL_law_588 (c_X11_vector hp1 h1) (fun v τ hq => ?_)
  obtain ⟨rfl, hτ⟩ := hq
  subst τ
  change ZL _ _ _ _ _ _ _ _ [.int r] _
  refine y_aload_n dL_law_591 rfl 2 rfl ?_
  refine y_aload_n dL_law_592 rfl 0 rfl ?_
  refine y_iload_n dL_law_593 rfl 3 rfl ?_
  refine y_iconst (v := 1) dL_law_594 (by decide) ?_
  refine y_iadd dL_law_595 ?_
  refine y_sld (xin (k := 1) hi hL (by decide)) dL_law_596 ?_
  refine y_aload_n dL_law_597 rfl 0 rfl ?_
  refine y_iload_n dL_law_598 rfl 3 rfl ?_
  refine y_iconst (v := 2) dL_law_599 (by decide) ?_
  refine y_iadd dL_law_600 ?_
  refine y_sld (xin (k := 2) hi hL (by decide)) dL_law_601 ?_
  refine y_callV (M' := m_X12_vector) (t := 3) (i := 0) (k := 0) (As := [.int (xs (nI i + 1).toNatClampNeg), .int (xs (nI i + 2).toNatClampNeg)]) (rest := [.int r]) hc0 hs0 kl_L_65 oy_X12_vector ⟨Nat.le_of_ble_eq_true rfl, Nat.le_of_ble_eq_true rfl⟩ rfl rfl rfl rfl (Nat.le_of_ble_eq_true rfl) rfl dL_law_602 (c_X12_vector hp2 h2) (fun v τ hq => ?_)
  obtain ⟨rfl, hτ⟩ := hq
  subst τ
  change ZL _ _ _ _ _ _ _ _ [.int r, .int r] _
  refine y_icmp_eq (tgt := 2124) dL_law_605 (by decide) (fun _ => ?_) (fun q => ?_)
  · exact kk
  · exact absurd rfl q
set_option maxRecDepth 20000 in
theorem lc_12 {b L : Nat} {xs : Nat → Int32} {S : Shp} {cells slots i : Nat} {σ σ1 σ2 : Mm} {r : Int32} (hL : L ≤ 3584) (hi : i + 7 ≤ L) (hc0 : cells ≤ 600000) (hs0 : slots ≤ 7302250) (h1 : F_X11_line (xs (nI i + 1).toNatClampNeg) (xs (nI i + 2).toNatClampNeg) (xs (nI i + 3).toNatClampNeg) σ = some (r, σ1)) (h2 : F_X12_line (xs (nI i + 1).toNatClampNeg) (xs (nI i + 2).toNatClampNeg) (xs (nI i + 3).toNatClampNeg) σ1 = some (r, σ2)) (kk : ZL b L xs S cells slots 2124 [(0, .ref b), (1, .ref (sL S 0 0 0)), (2, .ref (sL S 3 0 0)), (3, .int (nI i))] [] σ2) : ZL b L xs S cells slots 610 [(0, .ref b), (1, .ref (sL S 0 0 0)), (2, .ref (sL S 3 0 0)), (3, .int (nI i))] [] σ := by
  refine y_aload_n dL_law_610 rfl 1 rfl ?_
  refine y_aload_n dL_law_611 rfl 0 rfl ?_
  refine y_iload_n dL_law_612 rfl 3 rfl ?_
  refine y_iconst (v := 1) dL_law_613 (by decide) ?_
  refine y_iadd dL_law_614 ?_
  refine y_sld (xin (k := 1) hi hL (by decide)) dL_law_615 ?_
  refine y_aload_n dL_law_616 rfl 0 rfl ?_
  refine y_iload_n dL_law_617 rfl 3 rfl ?_
  refine y_iconst (v := 2) dL_law_618 (by decide) ?_
  refine y_iadd dL_law_619 ?_
  refine y_sld (xin (k := 2) hi hL (by decide)) dL_law_620 ?_
  refine y_aload_n dL_law_621 rfl 0 rfl ?_
  refine y_iload_n dL_law_622 rfl 3 rfl ?_
  refine y_iconst (v := 3) dL_law_623 (by decide) ?_
  refine y_iadd dL_law_624 ?_
  refine y_sld (xin (k := 3) hi hL (by decide)) dL_law_625 ?_
  refine y_callV (M' := m_X11_line) (t := 0) (i := 0) (k := 0) (As := [.int (xs (nI i + 1).toNatClampNeg), .int (xs (nI i + 2).toNatClampNeg), .int (xs (nI i + 3).toNatClampNeg)]) (rest := []) hc0 hs0 kl_L_66 oy_X11_line ⟨Nat.le_of_ble_eq_true rfl, Nat.le_of_ble_eq_true rfl⟩ rfl rfl rfl rfl (Nat.le_of_ble_eq_true rfl) rfl dL_law_626 (c_X11_line h1) (fun v τ hq => ?_)
  obtain ⟨rfl, hτ⟩ := hq
  subst τ
  change ZL _ _ _ _ _ _ _ _ [.int r] _
  refine y_aload_n dL_law_629 rfl 2 rfl ?_
  refine y_aload_n dL_law_630 rfl 0 rfl ?_
  refine y_iload_n dL_law_631 rfl 3 rfl ?_
  refine y_iconst (v := 1) dL_law_632 (by decide) ?_
  refine y_iadd dL_law_633 ?_
  refine y_sld (xin (k := 1) hi hL (by decide)) dL_law_634 ?_
  refine y_aload_n dL_law_635 rfl 0 rfl ?_
  refine y_iload_n dL_law_636 rfl 3 rfl ?_
  refine y_iconst (v := 2) dL_law_637 (by decide) ?_
  refine y_iadd dL_law_638 ?_
  refine y_sld (xin (k := 2) hi hL (by decide)) dL_law_639 ?_
  refine y_aload_n dL_law_640 rfl 0 rfl ?_
  refine y_iload_n dL_law_641 rfl 3 rfl ?_
  refine y_iconst (v := 3) dL_law_642 (by decide) ?_
  refine y_iadd dL_law_643 ?_
  refine y_sld (xin (k := 3) hi hL (by decide)) dL_law_644 ?_
  refine y_callV (M' := m_X12_line) (t := 3) (i := 0) (k := 0) (As := [.int (xs (nI i + 1).toNatClampNeg), .int (xs (nI i + 2).toNatClampNeg), .int (xs (nI i + 3).toNatClampNeg)]) (rest := [.int r]) hc0 hs0 kl_L_69 oy_X12_line ⟨Nat.le_of_ble_eq_true rfl, Nat.le_of_ble_eq_true rfl⟩ rfl rfl rfl rfl (Nat.le_of_ble_eq_true rfl) rfl dL_law_645 (c_X12_line h2) (fun v τ hq => ?_)
  obtain ⟨rfl, hτ⟩ := hq
  subst τ
  change ZL _ _ _ _ _ _ _ _ [.int r, .int r] _
  refine y_icmp_eq (tgt := 2124) dL_law_648 (by decide) (fun _ => ?_) (fun q => ?_)
  · exact kk
  · exact absurd rfl q
set_option maxRecDepth 20000 in
theorem lc_13 {b L : Nat} {xs : Nat → Int32} {S : Shp} {cells slots i : Nat} {σ σ1 σ2 : Mm} {r : Int32} (hL : L ≤ 3584) (hi : i + 7 ≤ L) (hc0 : cells ≤ 600000) (hs0 : slots ≤ 7302250) (h1 : F_X11_lines (if xs (nI i + 1).toNatClampNeg = 0 then 0 else 1) (xs (nI i + 2).toNatClampNeg) σ = some (r, σ1)) (h2 : F_X12_lines (if xs (nI i + 1).toNatClampNeg = 0 then 0 else 1) (xs (nI i + 2).toNatClampNeg) σ1 = some (r, σ2)) (kk : ZL b L xs S cells slots 2124 [(0, .ref b), (1, .ref (sL S 0 0 0)), (2, .ref (sL S 3 0 0)), (3, .int (nI i))] [] σ2) : ZL b L xs S cells slots 653 [(0, .ref b), (1, .ref (sL S 0 0 0)), (2, .ref (sL S 3 0 0)), (3, .int (nI i))] [] σ := by
  refine y_aload_n dL_law_653 rfl 1 rfl ?_
  refine y_aload_n dL_law_654 rfl 0 rfl ?_
  refine y_iload_n dL_law_655 rfl 3 rfl ?_
  refine y_iconst (v := 1) dL_law_656 (by decide) ?_
  refine y_iadd dL_law_657 ?_
  refine y_sld (xin (k := 1) hi hL (by decide)) dL_law_658 ?_
  refine y_if_eq (tgt := 666) dL_law_659 (by decide) (fun qb => ?_) (fun qb => ?_)
  · rw [if_pos qb] at h1 h2
    refine y_iconst (v := 0) dL_law_666 (by decide) ?_
    refine y_aload_n dL_law_667 rfl 0 rfl ?_
    refine y_iload_n dL_law_668 rfl 3 rfl ?_
    refine y_iconst (v := 2) dL_law_669 (by decide) ?_
    refine y_iadd dL_law_670 ?_
    refine y_sld (xin (k := 2) hi hL (by decide)) dL_law_671 ?_
    refine y_callV (M' := m_X11_lines) (t := 0) (i := 0) (k := 0) (As := [.int 0, .int (xs (nI i + 2).toNatClampNeg)]) (rest := []) hc0 hs0 kl_L_70 oy_X11_lines ⟨Nat.le_of_ble_eq_true rfl, Nat.le_of_ble_eq_true rfl⟩ rfl rfl rfl rfl (Nat.le_of_ble_eq_true rfl) rfl dL_law_672 (c_X11_lines h1) (fun v τ hq => ?_)
    obtain ⟨rfl, hτ⟩ := hq
    subst τ
    change ZL _ _ _ _ _ _ _ _ [.int r] _
    refine y_aload_n dL_law_675 rfl 2 rfl ?_
    refine y_aload_n dL_law_676 rfl 0 rfl ?_
    refine y_iload_n dL_law_677 rfl 3 rfl ?_
    refine y_iconst (v := 1) dL_law_678 (by decide) ?_
    refine y_iadd dL_law_679 ?_
    refine y_sld (xin (k := 1) hi hL (by decide)) dL_law_680 ?_
    refine y_if_eq (tgt := 688) dL_law_681 (by decide) (fun _ => ?_) (fun q2 => absurd qb q2)
    refine y_iconst (v := 0) dL_law_688 (by decide) ?_
    refine y_aload_n dL_law_689 rfl 0 rfl ?_
    refine y_iload_n dL_law_690 rfl 3 rfl ?_
    refine y_iconst (v := 2) dL_law_691 (by decide) ?_
    refine y_iadd dL_law_692 ?_
    refine y_sld (xin (k := 2) hi hL (by decide)) dL_law_693 ?_
    refine y_callV (M' := m_X12_lines) (t := 3) (i := 0) (k := 0) (As := [.int 0, .int (xs (nI i + 2).toNatClampNeg)]) (rest := [.int r]) hc0 hs0 kl_L_74 oy_X12_lines ⟨Nat.le_of_ble_eq_true rfl, Nat.le_of_ble_eq_true rfl⟩ rfl rfl rfl rfl (Nat.le_of_ble_eq_true rfl) rfl dL_law_694 (c_X12_lines h2) (fun v τ hq => ?_)
    obtain ⟨rfl, hτ⟩ := hq
    subst τ
    change ZL _ _ _ _ _ _ _ _ [.int r, .int r] _
    refine y_icmp_eq (tgt := 2124) dL_law_697 (by decide) (fun _ => ?_) (fun q => ?_)
    · exact kk
    · exact absurd rfl q
  · rw [if_neg qb] at h1 h2
    refine y_iconst (v := 1) dL_law_662 (by decide) ?_
    refine y_goto (tgt := 667) dL_law_663 (by decide) ?_
    refine y_aload_n dL_law_667 rfl 0 rfl ?_
    refine y_iload_n dL_law_668 rfl 3 rfl ?_
    refine y_iconst (v := 2) dL_law_669 (by decide) ?_
    refine y_iadd dL_law_670 ?_
    refine y_sld (xin (k := 2) hi hL (by decide)) dL_law_671 ?_
    refine y_callV (M' := m_X11_lines) (t := 0) (i := 0) (k := 0) (As := [.int 1, .int (xs (nI i + 2).toNatClampNeg)]) (rest := []) hc0 hs0 kl_L_70 oy_X11_lines ⟨Nat.le_of_ble_eq_true rfl, Nat.le_of_ble_eq_true rfl⟩ rfl rfl rfl rfl (Nat.le_of_ble_eq_true rfl) rfl dL_law_672 (c_X11_lines h1) (fun v τ hq => ?_)
    obtain ⟨rfl, hτ⟩ := hq
    subst τ
    change ZL _ _ _ _ _ _ _ _ [.int r] _
    refine y_aload_n dL_law_675 rfl 2 rfl ?_
    refine y_aload_n dL_law_676 rfl 0 rfl ?_
    refine y_iload_n dL_law_677 rfl 3 rfl ?_
    refine y_iconst (v := 1) dL_law_678 (by decide) ?_
    refine y_iadd dL_law_679 ?_
    refine y_sld (xin (k := 1) hi hL (by decide)) dL_law_680 ?_
    refine y_if_eq (tgt := 688) dL_law_681 (by decide) (fun q2 => absurd q2 qb) (fun _ => ?_)
    refine y_iconst (v := 1) dL_law_684 (by decide) ?_
    refine y_goto (tgt := 689) dL_law_685 (by decide) ?_
    refine y_aload_n dL_law_689 rfl 0 rfl ?_
    refine y_iload_n dL_law_690 rfl 3 rfl ?_
    refine y_iconst (v := 2) dL_law_691 (by decide) ?_
    refine y_iadd dL_law_692 ?_
    refine y_sld (xin (k := 2) hi hL (by decide)) dL_law_693 ?_
    refine y_callV (M' := m_X12_lines) (t := 3) (i := 0) (k := 0) (As := [.int 1, .int (xs (nI i + 2).toNatClampNeg)]) (rest := [.int r]) hc0 hs0 kl_L_74 oy_X12_lines ⟨Nat.le_of_ble_eq_true rfl, Nat.le_of_ble_eq_true rfl⟩ rfl rfl rfl rfl (Nat.le_of_ble_eq_true rfl) rfl dL_law_694 (c_X12_lines h2) (fun v τ hq => ?_)
    obtain ⟨rfl, hτ⟩ := hq
    subst τ
    change ZL _ _ _ _ _ _ _ _ [.int r, .int r] _
    refine y_icmp_eq (tgt := 2124) dL_law_697 (by decide) (fun _ => ?_) (fun q => ?_)
    · exact kk
    · exact absurd rfl q
set_option maxRecDepth 20000 in
theorem lc_14 {b L : Nat} {xs : Nat → Int32} {S : Shp} {cells slots i : Nat} {σ σ1 σ2 : Mm} {r : Int32} (hL : L ≤ 3584) (hi : i + 7 ≤ L) (hc0 : cells ≤ 600000) (hs0 : slots ≤ 7302250) (h1 : F_X11_height (xs (nI i + 1).toNatClampNeg) σ = some (r, σ1)) (h2 : F_X12_height (xs (nI i + 1).toNatClampNeg) σ1 = some (r, σ2)) (kk : ZL b L xs S cells slots 2124 [(0, .ref b), (1, .ref (sL S 0 0 0)), (2, .ref (sL S 3 0 0)), (3, .int (nI i))] [] σ2) : ZL b L xs S cells slots 702 [(0, .ref b), (1, .ref (sL S 0 0 0)), (2, .ref (sL S 3 0 0)), (3, .int (nI i))] [] σ := by
  refine y_aload_n dL_law_702 rfl 1 rfl ?_
  refine y_aload_n dL_law_703 rfl 0 rfl ?_
  refine y_iload_n dL_law_704 rfl 3 rfl ?_
  refine y_iconst (v := 1) dL_law_705 (by decide) ?_
  refine y_iadd dL_law_706 ?_
  refine y_sld (xin (k := 1) hi hL (by decide)) dL_law_707 ?_
  refine y_callV (M' := m_X11_height) (t := 0) (i := 0) (k := 0) (As := [.int (xs (nI i + 1).toNatClampNeg)]) (rest := []) hc0 hs0 kl_L_75 oy_X11_height ⟨Nat.le_of_ble_eq_true rfl, Nat.le_of_ble_eq_true rfl⟩ rfl rfl rfl rfl (Nat.le_of_ble_eq_true rfl) rfl dL_law_708 (c_X11_height h1) (fun v τ hq => ?_)
  obtain ⟨rfl, hτ⟩ := hq
  subst τ
  change ZL _ _ _ _ _ _ _ _ [.int r] _
  refine y_aload_n dL_law_711 rfl 2 rfl ?_
  refine y_aload_n dL_law_712 rfl 0 rfl ?_
  refine y_iload_n dL_law_713 rfl 3 rfl ?_
  refine y_iconst (v := 1) dL_law_714 (by decide) ?_
  refine y_iadd dL_law_715 ?_
  refine y_sld (xin (k := 1) hi hL (by decide)) dL_law_716 ?_
  refine y_callV (M' := m_X12_height) (t := 3) (i := 0) (k := 0) (As := [.int (xs (nI i + 1).toNatClampNeg)]) (rest := [.int r]) hc0 hs0 kl_L_78 oy_X12_height ⟨Nat.le_of_ble_eq_true rfl, Nat.le_of_ble_eq_true rfl⟩ rfl rfl rfl rfl (Nat.le_of_ble_eq_true rfl) rfl dL_law_717 (c_X12_height h2) (fun v τ hq => ?_)
  obtain ⟨rfl, hτ⟩ := hq
  subst τ
  change ZL _ _ _ _ _ _ _ _ [.int r, .int r] _
  refine y_icmp_eq (tgt := 2124) dL_law_720 (by decide) (fun _ => ?_) (fun q => ?_)
  · exact kk
  · exact absurd rfl q
set_option maxRecDepth 20000 in
theorem lc_15 {b L : Nat} {xs : Nat → Int32} {S : Shp} {cells slots i : Nat} {σ σ1 σ2 : Mm} {r : Int32} (hL : L ≤ 3584) (hi : i + 7 ≤ L) (hc0 : cells ≤ 600000) (hs0 : slots ≤ 7302250) (h1 : F_X11_rise (xs (nI i + 1).toNatClampNeg) (xs (nI i + 2).toNatClampNeg) σ = some (r, σ1)) (h2 : F_X12_rise (xs (nI i + 1).toNatClampNeg) (xs (nI i + 2).toNatClampNeg) σ1 = some (r, σ2)) (kk : ZL b L xs S cells slots 2124 [(0, .ref b), (1, .ref (sL S 0 0 0)), (2, .ref (sL S 3 0 0)), (3, .int (nI i))] [] σ2) : ZL b L xs S cells slots 725 [(0, .ref b), (1, .ref (sL S 0 0 0)), (2, .ref (sL S 3 0 0)), (3, .int (nI i))] [] σ := by
  refine y_aload_n dL_law_725 rfl 1 rfl ?_
  refine y_aload_n dL_law_726 rfl 0 rfl ?_
  refine y_iload_n dL_law_727 rfl 3 rfl ?_
  refine y_iconst (v := 1) dL_law_728 (by decide) ?_
  refine y_iadd dL_law_729 ?_
  refine y_sld (xin (k := 1) hi hL (by decide)) dL_law_730 ?_
  refine y_aload_n dL_law_731 rfl 0 rfl ?_
  refine y_iload_n dL_law_732 rfl 3 rfl ?_
  refine y_iconst (v := 2) dL_law_733 (by decide) ?_
  refine y_iadd dL_law_734 ?_
  refine y_sld (xin (k := 2) hi hL (by decide)) dL_law_735 ?_
  refine y_callV (M' := m_X11_rise) (t := 0) (i := 0) (k := 0) (As := [.int (xs (nI i + 1).toNatClampNeg), .int (xs (nI i + 2).toNatClampNeg)]) (rest := []) hc0 hs0 kl_L_79 oy_X11_rise ⟨Nat.le_of_ble_eq_true rfl, Nat.le_of_ble_eq_true rfl⟩ rfl rfl rfl rfl (Nat.le_of_ble_eq_true rfl) rfl dL_law_736 (c_X11_rise h1) (fun v τ hq => ?_)
  obtain ⟨rfl, hτ⟩ := hq
  subst τ
  change ZL _ _ _ _ _ _ _ _ [.int r] _
  refine y_aload_n dL_law_739 rfl 2 rfl ?_
  refine y_aload_n dL_law_740 rfl 0 rfl ?_
  refine y_iload_n dL_law_741 rfl 3 rfl ?_
  refine y_iconst (v := 1) dL_law_742 (by decide) ?_
  refine y_iadd dL_law_743 ?_
  refine y_sld (xin (k := 1) hi hL (by decide)) dL_law_744 ?_
  refine y_aload_n dL_law_745 rfl 0 rfl ?_
  refine y_iload_n dL_law_746 rfl 3 rfl ?_
  refine y_iconst (v := 2) dL_law_747 (by decide) ?_
  refine y_iadd dL_law_748 ?_
  refine y_sld (xin (k := 2) hi hL (by decide)) dL_law_749 ?_
  refine y_callV (M' := m_X12_rise) (t := 3) (i := 0) (k := 0) (As := [.int (xs (nI i + 1).toNatClampNeg), .int (xs (nI i + 2).toNatClampNeg)]) (rest := [.int r]) hc0 hs0 kl_L_82 oy_X12_rise ⟨Nat.le_of_ble_eq_true rfl, Nat.le_of_ble_eq_true rfl⟩ rfl rfl rfl rfl (Nat.le_of_ble_eq_true rfl) rfl dL_law_750 (c_X12_rise h2) (fun v τ hq => ?_)
  obtain ⟨rfl, hτ⟩ := hq
  subst τ
  change ZL _ _ _ _ _ _ _ _ [.int r, .int r] _
  refine y_icmp_eq (tgt := 2124) dL_law_753 (by decide) (fun _ => ?_) (fun q => ?_)
  · exact kk
  · exact absurd rfl q
set_option maxRecDepth 20000 in
theorem lc_16 {b L : Nat} {xs : Nat → Int32} {S : Shp} {cells slots i : Nat} {σ σ1 σ2 : Mm} {r : Int32} (hL : L ≤ 3584) (hi : i + 7 ≤ L) (hc0 : cells ≤ 600000) (hs0 : slots ≤ 7302250) (h1 : F_X11_hit (xs (nI i + 1).toNatClampNeg) (xs (nI i + 2).toNatClampNeg) (xs (nI i + 3).toNatClampNeg) (xs (nI i + 4).toNatClampNeg) σ = some (r, σ1)) (h2 : F_X12_hit (xs (nI i + 1).toNatClampNeg) (xs (nI i + 2).toNatClampNeg) (xs (nI i + 3).toNatClampNeg) (xs (nI i + 4).toNatClampNeg) σ1 = some (r, σ2)) (kk : ZL b L xs S cells slots 2124 [(0, .ref b), (1, .ref (sL S 0 0 0)), (2, .ref (sL S 3 0 0)), (3, .int (nI i))] [] σ2) : ZL b L xs S cells slots 758 [(0, .ref b), (1, .ref (sL S 0 0 0)), (2, .ref (sL S 3 0 0)), (3, .int (nI i))] [] σ := by
  refine y_aload_n dL_law_758 rfl 1 rfl ?_
  refine y_aload_n dL_law_759 rfl 0 rfl ?_
  refine y_iload_n dL_law_760 rfl 3 rfl ?_
  refine y_iconst (v := 1) dL_law_761 (by decide) ?_
  refine y_iadd dL_law_762 ?_
  refine y_sld (xin (k := 1) hi hL (by decide)) dL_law_763 ?_
  refine y_aload_n dL_law_764 rfl 0 rfl ?_
  refine y_iload_n dL_law_765 rfl 3 rfl ?_
  refine y_iconst (v := 2) dL_law_766 (by decide) ?_
  refine y_iadd dL_law_767 ?_
  refine y_sld (xin (k := 2) hi hL (by decide)) dL_law_768 ?_
  refine y_aload_n dL_law_769 rfl 0 rfl ?_
  refine y_iload_n dL_law_770 rfl 3 rfl ?_
  refine y_iconst (v := 3) dL_law_771 (by decide) ?_
  refine y_iadd dL_law_772 ?_
  refine y_sld (xin (k := 3) hi hL (by decide)) dL_law_773 ?_
  refine y_aload_n dL_law_774 rfl 0 rfl ?_
  refine y_iload_n dL_law_775 rfl 3 rfl ?_
  refine y_iconst (v := 4) dL_law_776 (by decide) ?_
  refine y_iadd dL_law_777 ?_
  refine y_sld (xin (k := 4) hi hL (by decide)) dL_law_778 ?_
  refine y_callV (M' := m_X11_hit) (t := 0) (i := 0) (k := 0) (As := [.int (xs (nI i + 1).toNatClampNeg), .int (xs (nI i + 2).toNatClampNeg), .int (xs (nI i + 3).toNatClampNeg), .int (xs (nI i + 4).toNatClampNeg)]) (rest := []) hc0 hs0 kl_L_83 oy_X11_hit ⟨Nat.le_of_ble_eq_true rfl, Nat.le_of_ble_eq_true rfl⟩ rfl rfl rfl rfl (Nat.le_of_ble_eq_true rfl) rfl dL_law_779 (c_X11_hit h1) (fun v τ hq => ?_)
  obtain ⟨rfl, hτ⟩ := hq
  subst τ
  change ZL _ _ _ _ _ _ _ _ [.int r] _
  refine y_aload_n dL_law_782 rfl 2 rfl ?_
  refine y_aload_n dL_law_783 rfl 0 rfl ?_
  refine y_iload_n dL_law_784 rfl 3 rfl ?_
  refine y_iconst (v := 1) dL_law_785 (by decide) ?_
  refine y_iadd dL_law_786 ?_
  refine y_sld (xin (k := 1) hi hL (by decide)) dL_law_787 ?_
  refine y_aload_n dL_law_788 rfl 0 rfl ?_
  refine y_iload_n dL_law_789 rfl 3 rfl ?_
  refine y_iconst (v := 2) dL_law_790 (by decide) ?_
  refine y_iadd dL_law_791 ?_
  refine y_sld (xin (k := 2) hi hL (by decide)) dL_law_792 ?_
  refine y_aload_n dL_law_793 rfl 0 rfl ?_
  refine y_iload_n dL_law_794 rfl 3 rfl ?_
  refine y_iconst (v := 3) dL_law_795 (by decide) ?_
  refine y_iadd dL_law_796 ?_
  refine y_sld (xin (k := 3) hi hL (by decide)) dL_law_797 ?_
  refine y_aload_n dL_law_798 rfl 0 rfl ?_
  refine y_iload_n dL_law_799 rfl 3 rfl ?_
  refine y_iconst (v := 4) dL_law_800 (by decide) ?_
  refine y_iadd dL_law_801 ?_
  refine y_sld (xin (k := 4) hi hL (by decide)) dL_law_802 ?_
  refine y_callV (M' := m_X12_hit) (t := 3) (i := 0) (k := 0) (As := [.int (xs (nI i + 1).toNatClampNeg), .int (xs (nI i + 2).toNatClampNeg), .int (xs (nI i + 3).toNatClampNeg), .int (xs (nI i + 4).toNatClampNeg)]) (rest := [.int r]) hc0 hs0 kl_L_87 oy_X12_hit ⟨Nat.le_of_ble_eq_true rfl, Nat.le_of_ble_eq_true rfl⟩ rfl rfl rfl rfl (Nat.le_of_ble_eq_true rfl) rfl dL_law_803 (c_X12_hit h2) (fun v τ hq => ?_)
  obtain ⟨rfl, hτ⟩ := hq
  subst τ
  change ZL _ _ _ _ _ _ _ _ [.int r, .int r] _
  refine y_icmp_eq (tgt := 2124) dL_law_806 (by decide) (fun _ => ?_) (fun q => ?_)
  · exact kk
  · exact absurd rfl q
set_option maxRecDepth 20000 in
theorem lc_17 {b L : Nat} {xs : Nat → Int32} {S : Shp} {cells slots i : Nat} {σ σ1 σ2 : Mm} {r : Int32} (hL : L ≤ 3584) (hi : i + 7 ≤ L) (hc0 : cells ≤ 600000) (hs0 : slots ≤ 7302250) (h1 : F_X11_hits (xs (nI i + 1).toNatClampNeg) (xs (nI i + 2).toNatClampNeg) (xs (nI i + 3).toNatClampNeg) (if xs (nI i + 4).toNatClampNeg = 0 then 0 else 1) (xs (nI i + 5).toNatClampNeg) σ = some (r, σ1)) (h2 : F_X12_hits (xs (nI i + 1).toNatClampNeg) (xs (nI i + 2).toNatClampNeg) (xs (nI i + 3).toNatClampNeg) (if xs (nI i + 4).toNatClampNeg = 0 then 0 else 1) (xs (nI i + 5).toNatClampNeg) σ1 = some (r, σ2)) (kk : ZL b L xs S cells slots 2124 [(0, .ref b), (1, .ref (sL S 0 0 0)), (2, .ref (sL S 3 0 0)), (3, .int (nI i))] [] σ2) : ZL b L xs S cells slots 811 [(0, .ref b), (1, .ref (sL S 0 0 0)), (2, .ref (sL S 3 0 0)), (3, .int (nI i))] [] σ := by
  refine y_aload_n dL_law_811 rfl 1 rfl ?_
  refine y_aload_n dL_law_812 rfl 0 rfl ?_
  refine y_iload_n dL_law_813 rfl 3 rfl ?_
  refine y_iconst (v := 1) dL_law_814 (by decide) ?_
  refine y_iadd dL_law_815 ?_
  refine y_sld (xin (k := 1) hi hL (by decide)) dL_law_816 ?_
  refine y_aload_n dL_law_817 rfl 0 rfl ?_
  refine y_iload_n dL_law_818 rfl 3 rfl ?_
  refine y_iconst (v := 2) dL_law_819 (by decide) ?_
  refine y_iadd dL_law_820 ?_
  refine y_sld (xin (k := 2) hi hL (by decide)) dL_law_821 ?_
  refine y_aload_n dL_law_822 rfl 0 rfl ?_
  refine y_iload_n dL_law_823 rfl 3 rfl ?_
  refine y_iconst (v := 3) dL_law_824 (by decide) ?_
  refine y_iadd dL_law_825 ?_
  refine y_sld (xin (k := 3) hi hL (by decide)) dL_law_826 ?_
  refine y_aload_n dL_law_827 rfl 0 rfl ?_
  refine y_iload_n dL_law_828 rfl 3 rfl ?_
  refine y_iconst (v := 4) dL_law_829 (by decide) ?_
  refine y_iadd dL_law_830 ?_
  refine y_sld (xin (k := 4) hi hL (by decide)) dL_law_831 ?_
  refine y_if_eq (tgt := 839) dL_law_832 (by decide) (fun qb => ?_) (fun qb => ?_)
  · rw [if_pos qb] at h1 h2
    refine y_iconst (v := 0) dL_law_839 (by decide) ?_
    refine y_aload_n dL_law_840 rfl 0 rfl ?_
    refine y_iload_n dL_law_841 rfl 3 rfl ?_
    refine y_iconst (v := 5) dL_law_842 (by decide) ?_
    refine y_iadd dL_law_843 ?_
    refine y_sld (xin (k := 5) hi hL (by decide)) dL_law_844 ?_
    refine y_callV (M' := m_X11_hits) (t := 0) (i := 0) (k := 0) (As := [.int (xs (nI i + 1).toNatClampNeg), .int (xs (nI i + 2).toNatClampNeg), .int (xs (nI i + 3).toNatClampNeg), .int 0, .int (xs (nI i + 5).toNatClampNeg)]) (rest := []) hc0 hs0 kl_L_88 oy_X11_hits ⟨Nat.le_of_ble_eq_true rfl, Nat.le_of_ble_eq_true rfl⟩ rfl rfl rfl rfl (Nat.le_of_ble_eq_true rfl) rfl dL_law_845 (c_X11_hits h1) (fun v τ hq => ?_)
    obtain ⟨rfl, hτ⟩ := hq
    subst τ
    change ZL _ _ _ _ _ _ _ _ [.int r] _
    refine y_aload_n dL_law_848 rfl 2 rfl ?_
    refine y_aload_n dL_law_849 rfl 0 rfl ?_
    refine y_iload_n dL_law_850 rfl 3 rfl ?_
    refine y_iconst (v := 1) dL_law_851 (by decide) ?_
    refine y_iadd dL_law_852 ?_
    refine y_sld (xin (k := 1) hi hL (by decide)) dL_law_853 ?_
    refine y_aload_n dL_law_854 rfl 0 rfl ?_
    refine y_iload_n dL_law_855 rfl 3 rfl ?_
    refine y_iconst (v := 2) dL_law_856 (by decide) ?_
    refine y_iadd dL_law_857 ?_
    refine y_sld (xin (k := 2) hi hL (by decide)) dL_law_858 ?_
    refine y_aload_n dL_law_859 rfl 0 rfl ?_
    refine y_iload_n dL_law_860 rfl 3 rfl ?_
    refine y_iconst (v := 3) dL_law_861 (by decide) ?_
    refine y_iadd dL_law_862 ?_
    refine y_sld (xin (k := 3) hi hL (by decide)) dL_law_863 ?_
    refine y_aload_n dL_law_864 rfl 0 rfl ?_
    refine y_iload_n dL_law_865 rfl 3 rfl ?_
    refine y_iconst (v := 4) dL_law_866 (by decide) ?_
    refine y_iadd dL_law_867 ?_
    refine y_sld (xin (k := 4) hi hL (by decide)) dL_law_868 ?_
    refine y_if_eq (tgt := 876) dL_law_869 (by decide) (fun _ => ?_) (fun q2 => absurd qb q2)
    refine y_iconst (v := 0) dL_law_876 (by decide) ?_
    refine y_aload_n dL_law_877 rfl 0 rfl ?_
    refine y_iload_n dL_law_878 rfl 3 rfl ?_
    refine y_iconst (v := 5) dL_law_879 (by decide) ?_
    refine y_iadd dL_law_880 ?_
    refine y_sld (xin (k := 5) hi hL (by decide)) dL_law_881 ?_
    refine y_callV (M' := m_X12_hits) (t := 3) (i := 0) (k := 0) (As := [.int (xs (nI i + 1).toNatClampNeg), .int (xs (nI i + 2).toNatClampNeg), .int (xs (nI i + 3).toNatClampNeg), .int 0, .int (xs (nI i + 5).toNatClampNeg)]) (rest := [.int r]) hc0 hs0 kl_L_92 oy_X12_hits ⟨Nat.le_of_ble_eq_true rfl, Nat.le_of_ble_eq_true rfl⟩ rfl rfl rfl rfl (Nat.le_of_ble_eq_true rfl) rfl dL_law_882 (c_X12_hits h2) (fun v τ hq => ?_)
    obtain ⟨rfl, hτ⟩ := hq
    subst τ
    change ZL _ _ _ _ _ _ _ _ [.int r, .int r] _
    refine y_icmp_eq (tgt := 2124) dL_law_885 (by decide) (fun _ => ?_) (fun q => ?_)
    · exact kk
    · exact absurd rfl q
  · rw [if_neg qb] at h1 h2
    refine y_iconst (v := 1) dL_law_835 (by decide) ?_
    refine y_goto (tgt := 840) dL_law_836 (by decide) ?_
    refine y_aload_n dL_law_840 rfl 0 rfl ?_
    refine y_iload_n dL_law_841 rfl 3 rfl ?_
    refine y_iconst (v := 5) dL_law_842 (by decide) ?_
    refine y_iadd dL_law_843 ?_
    refine y_sld (xin (k := 5) hi hL (by decide)) dL_law_844 ?_
    refine y_callV (M' := m_X11_hits) (t := 0) (i := 0) (k := 0) (As := [.int (xs (nI i + 1).toNatClampNeg), .int (xs (nI i + 2).toNatClampNeg), .int (xs (nI i + 3).toNatClampNeg), .int 1, .int (xs (nI i + 5).toNatClampNeg)]) (rest := []) hc0 hs0 kl_L_88 oy_X11_hits ⟨Nat.le_of_ble_eq_true rfl, Nat.le_of_ble_eq_true rfl⟩ rfl rfl rfl rfl (Nat.le_of_ble_eq_true rfl) rfl dL_law_845 (c_X11_hits h1) (fun v τ hq => ?_)
    obtain ⟨rfl, hτ⟩ := hq
    subst τ
    change ZL _ _ _ _ _ _ _ _ [.int r] _
    refine y_aload_n dL_law_848 rfl 2 rfl ?_
    refine y_aload_n dL_law_849 rfl 0 rfl ?_
    refine y_iload_n dL_law_850 rfl 3 rfl ?_
    refine y_iconst (v := 1) dL_law_851 (by decide) ?_
    refine y_iadd dL_law_852 ?_
    refine y_sld (xin (k := 1) hi hL (by decide)) dL_law_853 ?_
    refine y_aload_n dL_law_854 rfl 0 rfl ?_
    refine y_iload_n dL_law_855 rfl 3 rfl ?_
    refine y_iconst (v := 2) dL_law_856 (by decide) ?_
    refine y_iadd dL_law_857 ?_
    refine y_sld (xin (k := 2) hi hL (by decide)) dL_law_858 ?_
    refine y_aload_n dL_law_859 rfl 0 rfl ?_
    refine y_iload_n dL_law_860 rfl 3 rfl ?_
    refine y_iconst (v := 3) dL_law_861 (by decide) ?_
    refine y_iadd dL_law_862 ?_
    refine y_sld (xin (k := 3) hi hL (by decide)) dL_law_863 ?_
    refine y_aload_n dL_law_864 rfl 0 rfl ?_
    refine y_iload_n dL_law_865 rfl 3 rfl ?_
    refine y_iconst (v := 4) dL_law_866 (by decide) ?_
    refine y_iadd dL_law_867 ?_
    refine y_sld (xin (k := 4) hi hL (by decide)) dL_law_868 ?_
    refine y_if_eq (tgt := 876) dL_law_869 (by decide) (fun q2 => absurd q2 qb) (fun _ => ?_)
    refine y_iconst (v := 1) dL_law_872 (by decide) ?_
    refine y_goto (tgt := 877) dL_law_873 (by decide) ?_
    refine y_aload_n dL_law_877 rfl 0 rfl ?_
    refine y_iload_n dL_law_878 rfl 3 rfl ?_
    refine y_iconst (v := 5) dL_law_879 (by decide) ?_
    refine y_iadd dL_law_880 ?_
    refine y_sld (xin (k := 5) hi hL (by decide)) dL_law_881 ?_
    refine y_callV (M' := m_X12_hits) (t := 3) (i := 0) (k := 0) (As := [.int (xs (nI i + 1).toNatClampNeg), .int (xs (nI i + 2).toNatClampNeg), .int (xs (nI i + 3).toNatClampNeg), .int 1, .int (xs (nI i + 5).toNatClampNeg)]) (rest := [.int r]) hc0 hs0 kl_L_92 oy_X12_hits ⟨Nat.le_of_ble_eq_true rfl, Nat.le_of_ble_eq_true rfl⟩ rfl rfl rfl rfl (Nat.le_of_ble_eq_true rfl) rfl dL_law_882 (c_X12_hits h2) (fun v τ hq => ?_)
    obtain ⟨rfl, hτ⟩ := hq
    subst τ
    change ZL _ _ _ _ _ _ _ _ [.int r, .int r] _
    refine y_icmp_eq (tgt := 2124) dL_law_885 (by decide) (fun _ => ?_) (fun q => ?_)
    · exact kk
    · exact absurd rfl q
set_option maxRecDepth 20000 in
theorem lc_18 {b L : Nat} {xs : Nat → Int32} {S : Shp} {cells slots i : Nat} {σ σ1 σ2 : Mm} {r : Int32} (hL : L ≤ 3584) (hi : i + 7 ≤ L) (hc0 : cells ≤ 600000) (hs0 : slots ≤ 7302250) (h1 : F_X11_hitAt (xs (nI i + 1).toNatClampNeg) (xs (nI i + 2).toNatClampNeg) (if xs (nI i + 3).toNatClampNeg = 0 then 0 else 1) (xs (nI i + 4).toNatClampNeg) (xs (nI i + 5).toNatClampNeg) σ = some (r, σ1)) (h2 : F_X12_hitAt (xs (nI i + 1).toNatClampNeg) (xs (nI i + 2).toNatClampNeg) (if xs (nI i + 3).toNatClampNeg = 0 then 0 else 1) (xs (nI i + 4).toNatClampNeg) (xs (nI i + 5).toNatClampNeg) σ1 = some (r, σ2)) (kk : ZL b L xs S cells slots 2124 [(0, .ref b), (1, .ref (sL S 0 0 0)), (2, .ref (sL S 3 0 0)), (3, .int (nI i))] [] σ2) : ZL b L xs S cells slots 890 [(0, .ref b), (1, .ref (sL S 0 0 0)), (2, .ref (sL S 3 0 0)), (3, .int (nI i))] [] σ := by
  refine y_aload_n dL_law_890 rfl 1 rfl ?_
  refine y_aload_n dL_law_891 rfl 0 rfl ?_
  refine y_iload_n dL_law_892 rfl 3 rfl ?_
  refine y_iconst (v := 1) dL_law_893 (by decide) ?_
  refine y_iadd dL_law_894 ?_
  refine y_sld (xin (k := 1) hi hL (by decide)) dL_law_895 ?_
  refine y_aload_n dL_law_896 rfl 0 rfl ?_
  refine y_iload_n dL_law_897 rfl 3 rfl ?_
  refine y_iconst (v := 2) dL_law_898 (by decide) ?_
  refine y_iadd dL_law_899 ?_
  refine y_sld (xin (k := 2) hi hL (by decide)) dL_law_900 ?_
  refine y_aload_n dL_law_901 rfl 0 rfl ?_
  refine y_iload_n dL_law_902 rfl 3 rfl ?_
  refine y_iconst (v := 3) dL_law_903 (by decide) ?_
  refine y_iadd dL_law_904 ?_
  refine y_sld (xin (k := 3) hi hL (by decide)) dL_law_905 ?_
  refine y_if_eq (tgt := 913) dL_law_906 (by decide) (fun qb => ?_) (fun qb => ?_)
  · rw [if_pos qb] at h1 h2
    refine y_iconst (v := 0) dL_law_913 (by decide) ?_
    refine y_aload_n dL_law_914 rfl 0 rfl ?_
    refine y_iload_n dL_law_915 rfl 3 rfl ?_
    refine y_iconst (v := 4) dL_law_916 (by decide) ?_
    refine y_iadd dL_law_917 ?_
    refine y_sld (xin (k := 4) hi hL (by decide)) dL_law_918 ?_
    refine y_aload_n dL_law_919 rfl 0 rfl ?_
    refine y_iload_n dL_law_920 rfl 3 rfl ?_
    refine y_iconst (v := 5) dL_law_921 (by decide) ?_
    refine y_iadd dL_law_922 ?_
    refine y_sld (xin (k := 5) hi hL (by decide)) dL_law_923 ?_
    refine y_callV (M' := m_X11_hitAt) (t := 0) (i := 0) (k := 0) (As := [.int (xs (nI i + 1).toNatClampNeg), .int (xs (nI i + 2).toNatClampNeg), .int 0, .int (xs (nI i + 4).toNatClampNeg), .int (xs (nI i + 5).toNatClampNeg)]) (rest := []) hc0 hs0 kl_L_93 oy_X11_hitAt ⟨Nat.le_of_ble_eq_true rfl, Nat.le_of_ble_eq_true rfl⟩ rfl rfl rfl rfl (Nat.le_of_ble_eq_true rfl) rfl dL_law_924 (c_X11_hitAt h1) (fun v τ hq => ?_)
    obtain ⟨rfl, hτ⟩ := hq
    subst τ
    change ZL _ _ _ _ _ _ _ _ [.int r] _
    refine y_aload_n dL_law_927 rfl 2 rfl ?_
    refine y_aload_n dL_law_928 rfl 0 rfl ?_
    refine y_iload_n dL_law_929 rfl 3 rfl ?_
    refine y_iconst (v := 1) dL_law_930 (by decide) ?_
    refine y_iadd dL_law_931 ?_
    refine y_sld (xin (k := 1) hi hL (by decide)) dL_law_932 ?_
    refine y_aload_n dL_law_933 rfl 0 rfl ?_
    refine y_iload_n dL_law_934 rfl 3 rfl ?_
    refine y_iconst (v := 2) dL_law_935 (by decide) ?_
    refine y_iadd dL_law_936 ?_
    refine y_sld (xin (k := 2) hi hL (by decide)) dL_law_937 ?_
    refine y_aload_n dL_law_938 rfl 0 rfl ?_
    refine y_iload_n dL_law_939 rfl 3 rfl ?_
    refine y_iconst (v := 3) dL_law_940 (by decide) ?_
    refine y_iadd dL_law_941 ?_
    refine y_sld (xin (k := 3) hi hL (by decide)) dL_law_942 ?_
    refine y_if_eq (tgt := 950) dL_law_943 (by decide) (fun _ => ?_) (fun q2 => absurd qb q2)
    refine y_iconst (v := 0) dL_law_950 (by decide) ?_
    refine y_aload_n dL_law_951 rfl 0 rfl ?_
    refine y_iload_n dL_law_952 rfl 3 rfl ?_
    refine y_iconst (v := 4) dL_law_953 (by decide) ?_
    refine y_iadd dL_law_954 ?_
    refine y_sld (xin (k := 4) hi hL (by decide)) dL_law_955 ?_
    refine y_aload_n dL_law_956 rfl 0 rfl ?_
    refine y_iload_n dL_law_957 rfl 3 rfl ?_
    refine y_iconst (v := 5) dL_law_958 (by decide) ?_
    refine y_iadd dL_law_959 ?_
    refine y_sld (xin (k := 5) hi hL (by decide)) dL_law_960 ?_
    refine y_callV (M' := m_X12_hitAt) (t := 3) (i := 0) (k := 0) (As := [.int (xs (nI i + 1).toNatClampNeg), .int (xs (nI i + 2).toNatClampNeg), .int 0, .int (xs (nI i + 4).toNatClampNeg), .int (xs (nI i + 5).toNatClampNeg)]) (rest := [.int r]) hc0 hs0 kl_L_97 oy_X12_hitAt ⟨Nat.le_of_ble_eq_true rfl, Nat.le_of_ble_eq_true rfl⟩ rfl rfl rfl rfl (Nat.le_of_ble_eq_true rfl) rfl dL_law_961 (c_X12_hitAt h2) (fun v τ hq => ?_)
    obtain ⟨rfl, hτ⟩ := hq
    subst τ
    change ZL _ _ _ _ _ _ _ _ [.int r, .int r] _
    refine y_icmp_eq (tgt := 2124) dL_law_964 (by decide) (fun _ => ?_) (fun q => ?_)
    · exact kk
    · exact absurd rfl q
  · rw [if_neg qb] at h1 h2
    refine y_iconst (v := 1) dL_law_909 (by decide) ?_
    refine y_goto (tgt := 914) dL_law_910 (by decide) ?_
    refine y_aload_n dL_law_914 rfl 0 rfl ?_
    refine y_iload_n dL_law_915 rfl 3 rfl ?_
    refine y_iconst (v := 4) dL_law_916 (by decide) ?_
    refine y_iadd dL_law_917 ?_
    refine y_sld (xin (k := 4) hi hL (by decide)) dL_law_918 ?_
    refine y_aload_n dL_law_919 rfl 0 rfl ?_
    refine y_iload_n dL_law_920 rfl 3 rfl ?_
    refine y_iconst (v := 5) dL_law_921 (by decide) ?_
    refine y_iadd dL_law_922 ?_
    refine y_sld (xin (k := 5) hi hL (by decide)) dL_law_923 ?_
    refine y_callV (M' := m_X11_hitAt) (t := 0) (i := 0) (k := 0) (As := [.int (xs (nI i + 1).toNatClampNeg), .int (xs (nI i + 2).toNatClampNeg), .int 1, .int (xs (nI i + 4).toNatClampNeg), .int (xs (nI i + 5).toNatClampNeg)]) (rest := []) hc0 hs0 kl_L_93 oy_X11_hitAt ⟨Nat.le_of_ble_eq_true rfl, Nat.le_of_ble_eq_true rfl⟩ rfl rfl rfl rfl (Nat.le_of_ble_eq_true rfl) rfl dL_law_924 (c_X11_hitAt h1) (fun v τ hq => ?_)
    obtain ⟨rfl, hτ⟩ := hq
    subst τ
    change ZL _ _ _ _ _ _ _ _ [.int r] _
    refine y_aload_n dL_law_927 rfl 2 rfl ?_
    refine y_aload_n dL_law_928 rfl 0 rfl ?_
    refine y_iload_n dL_law_929 rfl 3 rfl ?_
    refine y_iconst (v := 1) dL_law_930 (by decide) ?_
    refine y_iadd dL_law_931 ?_
    refine y_sld (xin (k := 1) hi hL (by decide)) dL_law_932 ?_
    refine y_aload_n dL_law_933 rfl 0 rfl ?_
    refine y_iload_n dL_law_934 rfl 3 rfl ?_
    refine y_iconst (v := 2) dL_law_935 (by decide) ?_
    refine y_iadd dL_law_936 ?_
    refine y_sld (xin (k := 2) hi hL (by decide)) dL_law_937 ?_
    refine y_aload_n dL_law_938 rfl 0 rfl ?_
    refine y_iload_n dL_law_939 rfl 3 rfl ?_
    refine y_iconst (v := 3) dL_law_940 (by decide) ?_
    refine y_iadd dL_law_941 ?_
    refine y_sld (xin (k := 3) hi hL (by decide)) dL_law_942 ?_
    refine y_if_eq (tgt := 950) dL_law_943 (by decide) (fun q2 => absurd q2 qb) (fun _ => ?_)
    refine y_iconst (v := 1) dL_law_946 (by decide) ?_
    refine y_goto (tgt := 951) dL_law_947 (by decide) ?_
    refine y_aload_n dL_law_951 rfl 0 rfl ?_
    refine y_iload_n dL_law_952 rfl 3 rfl ?_
    refine y_iconst (v := 4) dL_law_953 (by decide) ?_
    refine y_iadd dL_law_954 ?_
    refine y_sld (xin (k := 4) hi hL (by decide)) dL_law_955 ?_
    refine y_aload_n dL_law_956 rfl 0 rfl ?_
    refine y_iload_n dL_law_957 rfl 3 rfl ?_
    refine y_iconst (v := 5) dL_law_958 (by decide) ?_
    refine y_iadd dL_law_959 ?_
    refine y_sld (xin (k := 5) hi hL (by decide)) dL_law_960 ?_
    refine y_callV (M' := m_X12_hitAt) (t := 3) (i := 0) (k := 0) (As := [.int (xs (nI i + 1).toNatClampNeg), .int (xs (nI i + 2).toNatClampNeg), .int 1, .int (xs (nI i + 4).toNatClampNeg), .int (xs (nI i + 5).toNatClampNeg)]) (rest := [.int r]) hc0 hs0 kl_L_97 oy_X12_hitAt ⟨Nat.le_of_ble_eq_true rfl, Nat.le_of_ble_eq_true rfl⟩ rfl rfl rfl rfl (Nat.le_of_ble_eq_true rfl) rfl dL_law_961 (c_X12_hitAt h2) (fun v τ hq => ?_)
    obtain ⟨rfl, hτ⟩ := hq
    subst τ
    change ZL _ _ _ _ _ _ _ _ [.int r, .int r] _
    refine y_icmp_eq (tgt := 2124) dL_law_964 (by decide) (fun _ => ?_) (fun q => ?_)
    · exact kk
    · exact absurd rfl q
set_option maxRecDepth 20000 in
theorem lc_19 {b L : Nat} {xs : Nat → Int32} {S : Shp} {cells slots i : Nat} {σ σ1 σ2 : Mm} {r : Int32} (hL : L ≤ 3584) (hi : i + 7 ≤ L) (hc0 : cells ≤ 600000) (hs0 : slots ≤ 7302250) (h1 : F_X11_many (xs (nI i + 1).toNatClampNeg) (xs (nI i + 2).toNatClampNeg) (xs (nI i + 3).toNatClampNeg) σ = some (r, σ1)) (h2 : F_X12_many (xs (nI i + 1).toNatClampNeg) (xs (nI i + 2).toNatClampNeg) (xs (nI i + 3).toNatClampNeg) σ1 = some (r, σ2)) (kk : ZL b L xs S cells slots 2124 [(0, .ref b), (1, .ref (sL S 0 0 0)), (2, .ref (sL S 3 0 0)), (3, .int (nI i))] [] σ2) : ZL b L xs S cells slots 969 [(0, .ref b), (1, .ref (sL S 0 0 0)), (2, .ref (sL S 3 0 0)), (3, .int (nI i))] [] σ := by
  refine y_aload_n dL_law_969 rfl 1 rfl ?_
  refine y_aload_n dL_law_970 rfl 0 rfl ?_
  refine y_iload_n dL_law_971 rfl 3 rfl ?_
  refine y_iconst (v := 1) dL_law_972 (by decide) ?_
  refine y_iadd dL_law_973 ?_
  refine y_sld (xin (k := 1) hi hL (by decide)) dL_law_974 ?_
  refine y_aload_n dL_law_975 rfl 0 rfl ?_
  refine y_iload_n dL_law_976 rfl 3 rfl ?_
  refine y_iconst (v := 2) dL_law_977 (by decide) ?_
  refine y_iadd dL_law_978 ?_
  refine y_sld (xin (k := 2) hi hL (by decide)) dL_law_979 ?_
  refine y_aload_n dL_law_980 rfl 0 rfl ?_
  refine y_iload_n dL_law_981 rfl 3 rfl ?_
  refine y_iconst (v := 3) dL_law_982 (by decide) ?_
  refine y_iadd dL_law_983 ?_
  refine y_sld (xin (k := 3) hi hL (by decide)) dL_law_984 ?_
  refine y_callV (M' := m_X11_many) (t := 0) (i := 0) (k := 0) (As := [.int (xs (nI i + 1).toNatClampNeg), .int (xs (nI i + 2).toNatClampNeg), .int (xs (nI i + 3).toNatClampNeg)]) (rest := []) hc0 hs0 kl_L_98 oy_X11_many ⟨Nat.le_of_ble_eq_true rfl, Nat.le_of_ble_eq_true rfl⟩ rfl rfl rfl rfl (Nat.le_of_ble_eq_true rfl) rfl dL_law_985 (c_X11_many h1) (fun v τ hq => ?_)
  obtain ⟨rfl, hτ⟩ := hq
  subst τ
  change ZL _ _ _ _ _ _ _ _ [.int r] _
  refine y_aload_n dL_law_988 rfl 2 rfl ?_
  refine y_aload_n dL_law_989 rfl 0 rfl ?_
  refine y_iload_n dL_law_990 rfl 3 rfl ?_
  refine y_iconst (v := 1) dL_law_991 (by decide) ?_
  refine y_iadd dL_law_992 ?_
  refine y_sld (xin (k := 1) hi hL (by decide)) dL_law_993 ?_
  refine y_aload_n dL_law_994 rfl 0 rfl ?_
  refine y_iload_n dL_law_995 rfl 3 rfl ?_
  refine y_iconst (v := 2) dL_law_996 (by decide) ?_
  refine y_iadd dL_law_997 ?_
  refine y_sld (xin (k := 2) hi hL (by decide)) dL_law_998 ?_
  refine y_aload_n dL_law_999 rfl 0 rfl ?_
  refine y_iload_n dL_law_1000 rfl 3 rfl ?_
  refine y_iconst (v := 3) dL_law_1001 (by decide) ?_
  refine y_iadd dL_law_1002 ?_
  refine y_sld (xin (k := 3) hi hL (by decide)) dL_law_1003 ?_
  refine y_callV (M' := m_X12_many) (t := 3) (i := 0) (k := 0) (As := [.int (xs (nI i + 1).toNatClampNeg), .int (xs (nI i + 2).toNatClampNeg), .int (xs (nI i + 3).toNatClampNeg)]) (rest := [.int r]) hc0 hs0 kl_L_101 oy_X12_many ⟨Nat.le_of_ble_eq_true rfl, Nat.le_of_ble_eq_true rfl⟩ rfl rfl rfl rfl (Nat.le_of_ble_eq_true rfl) rfl dL_law_1004 (c_X12_many h2) (fun v τ hq => ?_)
  obtain ⟨rfl, hτ⟩ := hq
  subst τ
  change ZL _ _ _ _ _ _ _ _ [.int r, .int r] _
  refine y_icmp_eq (tgt := 2124) dL_law_1007 (by decide) (fun _ => ?_) (fun q => ?_)
  · exact kk
  · exact absurd rfl q
set_option maxRecDepth 20000 in
theorem lc_20 {b L : Nat} {xs : Nat → Int32} {S : Shp} {cells slots i : Nat} {σ σ1 σ2 : Mm} {r : Int32} (hL : L ≤ 3584) (hi : i + 7 ≤ L) (hc0 : cells ≤ 600000) (hs0 : slots ≤ 7302250) (h1 : F_X11_allHits (xs (nI i + 1).toNatClampNeg) (xs (nI i + 2).toNatClampNeg) (xs (nI i + 3).toNatClampNeg) σ = some (r, σ1)) (h2 : F_X12_allHits (xs (nI i + 1).toNatClampNeg) (xs (nI i + 2).toNatClampNeg) (xs (nI i + 3).toNatClampNeg) σ1 = some (r, σ2)) (kk : ZL b L xs S cells slots 2124 [(0, .ref b), (1, .ref (sL S 0 0 0)), (2, .ref (sL S 3 0 0)), (3, .int (nI i))] [] σ2) : ZL b L xs S cells slots 1012 [(0, .ref b), (1, .ref (sL S 0 0 0)), (2, .ref (sL S 3 0 0)), (3, .int (nI i))] [] σ := by
  refine y_aload_n dL_law_1012 rfl 1 rfl ?_
  refine y_aload_n dL_law_1013 rfl 0 rfl ?_
  refine y_iload_n dL_law_1014 rfl 3 rfl ?_
  refine y_iconst (v := 1) dL_law_1015 (by decide) ?_
  refine y_iadd dL_law_1016 ?_
  refine y_sld (xin (k := 1) hi hL (by decide)) dL_law_1017 ?_
  refine y_aload_n dL_law_1018 rfl 0 rfl ?_
  refine y_iload_n dL_law_1019 rfl 3 rfl ?_
  refine y_iconst (v := 2) dL_law_1020 (by decide) ?_
  refine y_iadd dL_law_1021 ?_
  refine y_sld (xin (k := 2) hi hL (by decide)) dL_law_1022 ?_
  refine y_aload_n dL_law_1023 rfl 0 rfl ?_
  refine y_iload_n dL_law_1024 rfl 3 rfl ?_
  refine y_iconst (v := 3) dL_law_1025 (by decide) ?_
  refine y_iadd dL_law_1026 ?_
  refine y_sld (xin (k := 3) hi hL (by decide)) dL_law_1027 ?_
  refine y_callV (M' := m_X11_allHits) (t := 0) (i := 0) (k := 0) (As := [.int (xs (nI i + 1).toNatClampNeg), .int (xs (nI i + 2).toNatClampNeg), .int (xs (nI i + 3).toNatClampNeg)]) (rest := []) hc0 hs0 kl_L_102 oy_X11_allHits ⟨Nat.le_of_ble_eq_true rfl, Nat.le_of_ble_eq_true rfl⟩ rfl rfl rfl rfl (Nat.le_of_ble_eq_true rfl) rfl dL_law_1028 (c_X11_allHits h1) (fun v τ hq => ?_)
  obtain ⟨rfl, hτ⟩ := hq
  subst τ
  change ZL _ _ _ _ _ _ _ _ [.int r] _
  refine y_aload_n dL_law_1031 rfl 2 rfl ?_
  refine y_aload_n dL_law_1032 rfl 0 rfl ?_
  refine y_iload_n dL_law_1033 rfl 3 rfl ?_
  refine y_iconst (v := 1) dL_law_1034 (by decide) ?_
  refine y_iadd dL_law_1035 ?_
  refine y_sld (xin (k := 1) hi hL (by decide)) dL_law_1036 ?_
  refine y_aload_n dL_law_1037 rfl 0 rfl ?_
  refine y_iload_n dL_law_1038 rfl 3 rfl ?_
  refine y_iconst (v := 2) dL_law_1039 (by decide) ?_
  refine y_iadd dL_law_1040 ?_
  refine y_sld (xin (k := 2) hi hL (by decide)) dL_law_1041 ?_
  refine y_aload_n dL_law_1042 rfl 0 rfl ?_
  refine y_iload_n dL_law_1043 rfl 3 rfl ?_
  refine y_iconst (v := 3) dL_law_1044 (by decide) ?_
  refine y_iadd dL_law_1045 ?_
  refine y_sld (xin (k := 3) hi hL (by decide)) dL_law_1046 ?_
  refine y_callV (M' := m_X12_allHits) (t := 3) (i := 0) (k := 0) (As := [.int (xs (nI i + 1).toNatClampNeg), .int (xs (nI i + 2).toNatClampNeg), .int (xs (nI i + 3).toNatClampNeg)]) (rest := [.int r]) hc0 hs0 kl_L_105 oy_X12_allHits ⟨Nat.le_of_ble_eq_true rfl, Nat.le_of_ble_eq_true rfl⟩ rfl rfl rfl rfl (Nat.le_of_ble_eq_true rfl) rfl dL_law_1047 (c_X12_allHits h2) (fun v τ hq => ?_)
  obtain ⟨rfl, hτ⟩ := hq
  subst τ
  change ZL _ _ _ _ _ _ _ _ [.int r, .int r] _
  refine y_icmp_eq (tgt := 2124) dL_law_1050 (by decide) (fun _ => ?_) (fun q => ?_)
  · exact kk
  · exact absurd rfl q
set_option maxRecDepth 20000 in
theorem lc_21 {b L : Nat} {xs : Nat → Int32} {S : Shp} {cells slots i : Nat} {σ σ1 σ2 : Mm} {r : Int32} (hL : L ≤ 3584) (hi : i + 7 ≤ L) (hc0 : cells ≤ 600000) (hs0 : slots ≤ 7302250) (h1 : F_X11_alone (xs (nI i + 1).toNatClampNeg) (xs (nI i + 2).toNatClampNeg) (xs (nI i + 3).toNatClampNeg) σ = some (r, σ1)) (h2 : F_X12_alone (xs (nI i + 1).toNatClampNeg) (xs (nI i + 2).toNatClampNeg) (xs (nI i + 3).toNatClampNeg) σ1 = some (r, σ2)) (kk : ZL b L xs S cells slots 2124 [(0, .ref b), (1, .ref (sL S 0 0 0)), (2, .ref (sL S 3 0 0)), (3, .int (nI i))] [] σ2) : ZL b L xs S cells slots 1055 [(0, .ref b), (1, .ref (sL S 0 0 0)), (2, .ref (sL S 3 0 0)), (3, .int (nI i))] [] σ := by
  refine y_aload_n dL_law_1055 rfl 1 rfl ?_
  refine y_aload_n dL_law_1056 rfl 0 rfl ?_
  refine y_iload_n dL_law_1057 rfl 3 rfl ?_
  refine y_iconst (v := 1) dL_law_1058 (by decide) ?_
  refine y_iadd dL_law_1059 ?_
  refine y_sld (xin (k := 1) hi hL (by decide)) dL_law_1060 ?_
  refine y_aload_n dL_law_1061 rfl 0 rfl ?_
  refine y_iload_n dL_law_1062 rfl 3 rfl ?_
  refine y_iconst (v := 2) dL_law_1063 (by decide) ?_
  refine y_iadd dL_law_1064 ?_
  refine y_sld (xin (k := 2) hi hL (by decide)) dL_law_1065 ?_
  refine y_aload_n dL_law_1066 rfl 0 rfl ?_
  refine y_iload_n dL_law_1067 rfl 3 rfl ?_
  refine y_iconst (v := 3) dL_law_1068 (by decide) ?_
  refine y_iadd dL_law_1069 ?_
  refine y_sld (xin (k := 3) hi hL (by decide)) dL_law_1070 ?_
  refine y_callV (M' := m_X11_alone) (t := 0) (i := 0) (k := 0) (As := [.int (xs (nI i + 1).toNatClampNeg), .int (xs (nI i + 2).toNatClampNeg), .int (xs (nI i + 3).toNatClampNeg)]) (rest := []) hc0 hs0 kl_L_106 oy_X11_alone ⟨Nat.le_of_ble_eq_true rfl, Nat.le_of_ble_eq_true rfl⟩ rfl rfl rfl rfl (Nat.le_of_ble_eq_true rfl) rfl dL_law_1071 (c_X11_alone h1) (fun v τ hq => ?_)
  obtain ⟨rfl, hτ⟩ := hq
  subst τ
  change ZL _ _ _ _ _ _ _ _ [.int r] _
  refine y_aload_n dL_law_1074 rfl 2 rfl ?_
  refine y_aload_n dL_law_1075 rfl 0 rfl ?_
  refine y_iload_n dL_law_1076 rfl 3 rfl ?_
  refine y_iconst (v := 1) dL_law_1077 (by decide) ?_
  refine y_iadd dL_law_1078 ?_
  refine y_sld (xin (k := 1) hi hL (by decide)) dL_law_1079 ?_
  refine y_aload_n dL_law_1080 rfl 0 rfl ?_
  refine y_iload_n dL_law_1081 rfl 3 rfl ?_
  refine y_iconst (v := 2) dL_law_1082 (by decide) ?_
  refine y_iadd dL_law_1083 ?_
  refine y_sld (xin (k := 2) hi hL (by decide)) dL_law_1084 ?_
  refine y_aload_n dL_law_1085 rfl 0 rfl ?_
  refine y_iload_n dL_law_1086 rfl 3 rfl ?_
  refine y_iconst (v := 3) dL_law_1087 (by decide) ?_
  refine y_iadd dL_law_1088 ?_
  refine y_sld (xin (k := 3) hi hL (by decide)) dL_law_1089 ?_
  refine y_callV (M' := m_X12_alone) (t := 3) (i := 0) (k := 0) (As := [.int (xs (nI i + 1).toNatClampNeg), .int (xs (nI i + 2).toNatClampNeg), .int (xs (nI i + 3).toNatClampNeg)]) (rest := [.int r]) hc0 hs0 kl_L_109 oy_X12_alone ⟨Nat.le_of_ble_eq_true rfl, Nat.le_of_ble_eq_true rfl⟩ rfl rfl rfl rfl (Nat.le_of_ble_eq_true rfl) rfl dL_law_1090 (c_X12_alone h2) (fun v τ hq => ?_)
  obtain ⟨rfl, hτ⟩ := hq
  subst τ
  change ZL _ _ _ _ _ _ _ _ [.int r, .int r] _
  refine y_icmp_eq (tgt := 2124) dL_law_1093 (by decide) (fun _ => ?_) (fun q => ?_)
  · exact kk
  · exact absurd rfl q
set_option maxRecDepth 20000 in
theorem lc_22 {b L : Nat} {xs : Nat → Int32} {S : Shp} {cells slots i : Nat} {σ σ1 σ2 : Mm} {r : Int32} (hL : L ≤ 3584) (hi : i + 7 ≤ L) (hc0 : cells ≤ 600000) (hs0 : slots ≤ 7302250) (h1 : F_X11_striking (xs (nI i + 1).toNatClampNeg) (xs (nI i + 2).toNatClampNeg) (xs (nI i + 3).toNatClampNeg) σ = some (r, σ1)) (h2 : F_X12_striking (xs (nI i + 1).toNatClampNeg) (xs (nI i + 2).toNatClampNeg) (xs (nI i + 3).toNatClampNeg) σ1 = some (r, σ2)) (kk : ZL b L xs S cells slots 2124 [(0, .ref b), (1, .ref (sL S 0 0 0)), (2, .ref (sL S 3 0 0)), (3, .int (nI i))] [] σ2) : ZL b L xs S cells slots 1098 [(0, .ref b), (1, .ref (sL S 0 0 0)), (2, .ref (sL S 3 0 0)), (3, .int (nI i))] [] σ := by
  refine y_aload_n dL_law_1098 rfl 1 rfl ?_
  refine y_aload_n dL_law_1099 rfl 0 rfl ?_
  refine y_iload_n dL_law_1100 rfl 3 rfl ?_
  refine y_iconst (v := 1) dL_law_1101 (by decide) ?_
  refine y_iadd dL_law_1102 ?_
  refine y_sld (xin (k := 1) hi hL (by decide)) dL_law_1103 ?_
  refine y_aload_n dL_law_1104 rfl 0 rfl ?_
  refine y_iload_n dL_law_1105 rfl 3 rfl ?_
  refine y_iconst (v := 2) dL_law_1106 (by decide) ?_
  refine y_iadd dL_law_1107 ?_
  refine y_sld (xin (k := 2) hi hL (by decide)) dL_law_1108 ?_
  refine y_aload_n dL_law_1109 rfl 0 rfl ?_
  refine y_iload_n dL_law_1110 rfl 3 rfl ?_
  refine y_iconst (v := 3) dL_law_1111 (by decide) ?_
  refine y_iadd dL_law_1112 ?_
  refine y_sld (xin (k := 3) hi hL (by decide)) dL_law_1113 ?_
  refine y_callV (M' := m_X11_striking) (t := 0) (i := 0) (k := 0) (As := [.int (xs (nI i + 1).toNatClampNeg), .int (xs (nI i + 2).toNatClampNeg), .int (xs (nI i + 3).toNatClampNeg)]) (rest := []) hc0 hs0 kl_L_110 oy_X11_striking ⟨Nat.le_of_ble_eq_true rfl, Nat.le_of_ble_eq_true rfl⟩ rfl rfl rfl rfl (Nat.le_of_ble_eq_true rfl) rfl dL_law_1114 (c_X11_striking h1) (fun v τ hq => ?_)
  obtain ⟨rfl, hτ⟩ := hq
  subst τ
  change ZL _ _ _ _ _ _ _ _ [.int r] _
  refine y_aload_n dL_law_1117 rfl 2 rfl ?_
  refine y_aload_n dL_law_1118 rfl 0 rfl ?_
  refine y_iload_n dL_law_1119 rfl 3 rfl ?_
  refine y_iconst (v := 1) dL_law_1120 (by decide) ?_
  refine y_iadd dL_law_1121 ?_
  refine y_sld (xin (k := 1) hi hL (by decide)) dL_law_1122 ?_
  refine y_aload_n dL_law_1123 rfl 0 rfl ?_
  refine y_iload_n dL_law_1124 rfl 3 rfl ?_
  refine y_iconst (v := 2) dL_law_1125 (by decide) ?_
  refine y_iadd dL_law_1126 ?_
  refine y_sld (xin (k := 2) hi hL (by decide)) dL_law_1127 ?_
  refine y_aload_n dL_law_1128 rfl 0 rfl ?_
  refine y_iload_n dL_law_1129 rfl 3 rfl ?_
  refine y_iconst (v := 3) dL_law_1130 (by decide) ?_
  refine y_iadd dL_law_1131 ?_
  refine y_sld (xin (k := 3) hi hL (by decide)) dL_law_1132 ?_
  refine y_callV (M' := m_X12_striking) (t := 3) (i := 0) (k := 0) (As := [.int (xs (nI i + 1).toNatClampNeg), .int (xs (nI i + 2).toNatClampNeg), .int (xs (nI i + 3).toNatClampNeg)]) (rest := [.int r]) hc0 hs0 kl_L_113 oy_X12_striking ⟨Nat.le_of_ble_eq_true rfl, Nat.le_of_ble_eq_true rfl⟩ rfl rfl rfl rfl (Nat.le_of_ble_eq_true rfl) rfl dL_law_1133 (c_X12_striking h2) (fun v τ hq => ?_)
  obtain ⟨rfl, hτ⟩ := hq
  subst τ
  change ZL _ _ _ _ _ _ _ _ [.int r, .int r] _
  refine y_icmp_eq (tgt := 2124) dL_law_1136 (by decide) (fun _ => ?_) (fun q => ?_)
  · exact kk
  · exact absurd rfl q
set_option maxRecDepth 20000 in
theorem lc_23 {b L : Nat} {xs : Nat → Int32} {S : Shp} {cells slots i : Nat} {σ σ1 σ2 : Mm} {r : Int32} (hL : L ≤ 3584) (hi : i + 7 ≤ L) (hc0 : cells ≤ 600000) (hs0 : slots ≤ 7302250) (h1 : F_X11_price (xs (nI i + 1).toNatClampNeg) (xs (nI i + 2).toNatClampNeg) σ = some (r, σ1)) (h2 : F_X12_price (xs (nI i + 1).toNatClampNeg) (xs (nI i + 2).toNatClampNeg) σ1 = some (r, σ2)) (kk : ZL b L xs S cells slots 2124 [(0, .ref b), (1, .ref (sL S 0 0 0)), (2, .ref (sL S 3 0 0)), (3, .int (nI i))] [] σ2) : ZL b L xs S cells slots 1141 [(0, .ref b), (1, .ref (sL S 0 0 0)), (2, .ref (sL S 3 0 0)), (3, .int (nI i))] [] σ := by
  refine y_aload_n dL_law_1141 rfl 1 rfl ?_
  refine y_aload_n dL_law_1142 rfl 0 rfl ?_
  refine y_iload_n dL_law_1143 rfl 3 rfl ?_
  refine y_iconst (v := 1) dL_law_1144 (by decide) ?_
  refine y_iadd dL_law_1145 ?_
  refine y_sld (xin (k := 1) hi hL (by decide)) dL_law_1146 ?_
  refine y_aload_n dL_law_1147 rfl 0 rfl ?_
  refine y_iload_n dL_law_1148 rfl 3 rfl ?_
  refine y_iconst (v := 2) dL_law_1149 (by decide) ?_
  refine y_iadd dL_law_1150 ?_
  refine y_sld (xin (k := 2) hi hL (by decide)) dL_law_1151 ?_
  refine y_callV (M' := m_X11_price) (t := 0) (i := 0) (k := 0) (As := [.int (xs (nI i + 1).toNatClampNeg), .int (xs (nI i + 2).toNatClampNeg)]) (rest := []) hc0 hs0 kl_L_114 oy_X11_price ⟨Nat.le_of_ble_eq_true rfl, Nat.le_of_ble_eq_true rfl⟩ rfl rfl rfl rfl (Nat.le_of_ble_eq_true rfl) rfl dL_law_1152 (c_X11_price h1) (fun v τ hq => ?_)
  obtain ⟨rfl, hτ⟩ := hq
  subst τ
  change ZL _ _ _ _ _ _ _ _ [.int r] _
  refine y_aload_n dL_law_1155 rfl 2 rfl ?_
  refine y_aload_n dL_law_1156 rfl 0 rfl ?_
  refine y_iload_n dL_law_1157 rfl 3 rfl ?_
  refine y_iconst (v := 1) dL_law_1158 (by decide) ?_
  refine y_iadd dL_law_1159 ?_
  refine y_sld (xin (k := 1) hi hL (by decide)) dL_law_1160 ?_
  refine y_aload_n dL_law_1161 rfl 0 rfl ?_
  refine y_iload_n dL_law_1162 rfl 3 rfl ?_
  refine y_iconst (v := 2) dL_law_1163 (by decide) ?_
  refine y_iadd dL_law_1164 ?_
  refine y_sld (xin (k := 2) hi hL (by decide)) dL_law_1165 ?_
  refine y_callV (M' := m_X12_price) (t := 3) (i := 0) (k := 0) (As := [.int (xs (nI i + 1).toNatClampNeg), .int (xs (nI i + 2).toNatClampNeg)]) (rest := [.int r]) hc0 hs0 kl_L_117 oy_X12_price ⟨Nat.le_of_ble_eq_true rfl, Nat.le_of_ble_eq_true rfl⟩ rfl rfl rfl rfl (Nat.le_of_ble_eq_true rfl) rfl dL_law_1166 (c_X12_price h2) (fun v τ hq => ?_)
  obtain ⟨rfl, hτ⟩ := hq
  subst τ
  change ZL _ _ _ _ _ _ _ _ [.int r, .int r] _
  refine y_icmp_eq (tgt := 2124) dL_law_1169 (by decide) (fun _ => ?_) (fun q => ?_)
  · exact kk
  · exact absurd rfl q
set_option maxRecDepth 20000 in
theorem lc_24 {b L : Nat} {xs : Nat → Int32} {S : Shp} {cells slots i : Nat} {σ σ1 σ2 : Mm} {r : Int32} (hL : L ≤ 3584) (hi : i + 7 ≤ L) (hc0 : cells ≤ 600000) (hs0 : slots ≤ 7302250) (h1 : F_X11_story (xs (nI i + 1).toNatClampNeg) (xs (nI i + 2).toNatClampNeg) (xs (nI i + 3).toNatClampNeg) (xs (nI i + 4).toNatClampNeg) (xs (nI i + 5).toNatClampNeg) σ = some (r, σ1)) (h2 : F_X12_story (xs (nI i + 1).toNatClampNeg) (xs (nI i + 2).toNatClampNeg) (xs (nI i + 3).toNatClampNeg) (xs (nI i + 4).toNatClampNeg) (xs (nI i + 5).toNatClampNeg) σ1 = some (r, σ2)) (kk : ZL b L xs S cells slots 2124 [(0, .ref b), (1, .ref (sL S 0 0 0)), (2, .ref (sL S 3 0 0)), (3, .int (nI i))] [] σ2) : ZL b L xs S cells slots 1174 [(0, .ref b), (1, .ref (sL S 0 0 0)), (2, .ref (sL S 3 0 0)), (3, .int (nI i))] [] σ := by
  refine y_aload_n dL_law_1174 rfl 1 rfl ?_
  refine y_aload_n dL_law_1175 rfl 0 rfl ?_
  refine y_iload_n dL_law_1176 rfl 3 rfl ?_
  refine y_iconst (v := 1) dL_law_1177 (by decide) ?_
  refine y_iadd dL_law_1178 ?_
  refine y_sld (xin (k := 1) hi hL (by decide)) dL_law_1179 ?_
  refine y_aload_n dL_law_1180 rfl 0 rfl ?_
  refine y_iload_n dL_law_1181 rfl 3 rfl ?_
  refine y_iconst (v := 2) dL_law_1182 (by decide) ?_
  refine y_iadd dL_law_1183 ?_
  refine y_sld (xin (k := 2) hi hL (by decide)) dL_law_1184 ?_
  refine y_aload_n dL_law_1185 rfl 0 rfl ?_
  refine y_iload_n dL_law_1186 rfl 3 rfl ?_
  refine y_iconst (v := 3) dL_law_1187 (by decide) ?_
  refine y_iadd dL_law_1188 ?_
  refine y_sld (xin (k := 3) hi hL (by decide)) dL_law_1189 ?_
  refine y_aload_n dL_law_1190 rfl 0 rfl ?_
  refine y_iload_n dL_law_1191 rfl 3 rfl ?_
  refine y_iconst (v := 4) dL_law_1192 (by decide) ?_
  refine y_iadd dL_law_1193 ?_
  refine y_sld (xin (k := 4) hi hL (by decide)) dL_law_1194 ?_
  refine y_aload_n dL_law_1195 rfl 0 rfl ?_
  refine y_iload_n dL_law_1196 rfl 3 rfl ?_
  refine y_iconst (v := 5) dL_law_1197 (by decide) ?_
  refine y_iadd dL_law_1198 ?_
  refine y_sld (xin (k := 5) hi hL (by decide)) dL_law_1199 ?_
  refine y_callV (M' := m_X11_story) (t := 0) (i := 0) (k := 0) (As := [.int (xs (nI i + 1).toNatClampNeg), .int (xs (nI i + 2).toNatClampNeg), .int (xs (nI i + 3).toNatClampNeg), .int (xs (nI i + 4).toNatClampNeg), .int (xs (nI i + 5).toNatClampNeg)]) (rest := []) hc0 hs0 kl_L_118 oy_X11_story ⟨Nat.le_of_ble_eq_true rfl, Nat.le_of_ble_eq_true rfl⟩ rfl rfl rfl rfl (Nat.le_of_ble_eq_true rfl) rfl dL_law_1200 (c_X11_story h1) (fun v τ hq => ?_)
  obtain ⟨rfl, hτ⟩ := hq
  subst τ
  change ZL _ _ _ _ _ _ _ _ [.int r] _
  refine y_aload_n dL_law_1203 rfl 2 rfl ?_
  refine y_aload_n dL_law_1204 rfl 0 rfl ?_
  refine y_iload_n dL_law_1205 rfl 3 rfl ?_
  refine y_iconst (v := 1) dL_law_1206 (by decide) ?_
  refine y_iadd dL_law_1207 ?_
  refine y_sld (xin (k := 1) hi hL (by decide)) dL_law_1208 ?_
  refine y_aload_n dL_law_1209 rfl 0 rfl ?_
  refine y_iload_n dL_law_1210 rfl 3 rfl ?_
  refine y_iconst (v := 2) dL_law_1211 (by decide) ?_
  refine y_iadd dL_law_1212 ?_
  refine y_sld (xin (k := 2) hi hL (by decide)) dL_law_1213 ?_
  refine y_aload_n dL_law_1214 rfl 0 rfl ?_
  refine y_iload_n dL_law_1215 rfl 3 rfl ?_
  refine y_iconst (v := 3) dL_law_1216 (by decide) ?_
  refine y_iadd dL_law_1217 ?_
  refine y_sld (xin (k := 3) hi hL (by decide)) dL_law_1218 ?_
  refine y_aload_n dL_law_1219 rfl 0 rfl ?_
  refine y_iload_n dL_law_1220 rfl 3 rfl ?_
  refine y_iconst (v := 4) dL_law_1221 (by decide) ?_
  refine y_iadd dL_law_1222 ?_
  refine y_sld (xin (k := 4) hi hL (by decide)) dL_law_1223 ?_
  refine y_aload_n dL_law_1224 rfl 0 rfl ?_
  refine y_iload_n dL_law_1225 rfl 3 rfl ?_
  refine y_iconst (v := 5) dL_law_1226 (by decide) ?_
  refine y_iadd dL_law_1227 ?_
  refine y_sld (xin (k := 5) hi hL (by decide)) dL_law_1228 ?_
  refine y_callV (M' := m_X12_story) (t := 3) (i := 0) (k := 0) (As := [.int (xs (nI i + 1).toNatClampNeg), .int (xs (nI i + 2).toNatClampNeg), .int (xs (nI i + 3).toNatClampNeg), .int (xs (nI i + 4).toNatClampNeg), .int (xs (nI i + 5).toNatClampNeg)]) (rest := [.int r]) hc0 hs0 kl_L_121 oy_X12_story ⟨Nat.le_of_ble_eq_true rfl, Nat.le_of_ble_eq_true rfl⟩ rfl rfl rfl rfl (Nat.le_of_ble_eq_true rfl) rfl dL_law_1229 (c_X12_story h2) (fun v τ hq => ?_)
  obtain ⟨rfl, hτ⟩ := hq
  subst τ
  change ZL _ _ _ _ _ _ _ _ [.int r, .int r] _
  refine y_icmp_eq (tgt := 2124) dL_law_1232 (by decide) (fun _ => ?_) (fun q => ?_)
  · exact kk
  · exact absurd rfl q
set_option maxRecDepth 20000 in
theorem lc_25 {b L : Nat} {xs : Nat → Int32} {S : Shp} {cells slots i : Nat} {σ σ1 σ2 : Mm} {r : Int32} (hL : L ≤ 3584) (hi : i + 7 ≤ L) (hc0 : cells ≤ 600000) (hs0 : slots ≤ 7302250) (h1 : F_X11_otherwise (xs (nI i + 1).toNatClampNeg) (xs (nI i + 2).toNatClampNeg) (xs (nI i + 3).toNatClampNeg) (xs (nI i + 4).toNatClampNeg) σ = some (r, σ1)) (h2 : F_X12_otherwise (xs (nI i + 1).toNatClampNeg) (xs (nI i + 2).toNatClampNeg) (xs (nI i + 3).toNatClampNeg) (xs (nI i + 4).toNatClampNeg) σ1 = some (r, σ2)) (kk : ZL b L xs S cells slots 2124 [(0, .ref b), (1, .ref (sL S 0 0 0)), (2, .ref (sL S 3 0 0)), (3, .int (nI i))] [] σ2) : ZL b L xs S cells slots 1237 [(0, .ref b), (1, .ref (sL S 0 0 0)), (2, .ref (sL S 3 0 0)), (3, .int (nI i))] [] σ := by
  refine y_aload_n dL_law_1237 rfl 1 rfl ?_
  refine y_aload_n dL_law_1238 rfl 0 rfl ?_
  refine y_iload_n dL_law_1239 rfl 3 rfl ?_
  refine y_iconst (v := 1) dL_law_1240 (by decide) ?_
  refine y_iadd dL_law_1241 ?_
  refine y_sld (xin (k := 1) hi hL (by decide)) dL_law_1242 ?_
  refine y_aload_n dL_law_1243 rfl 0 rfl ?_
  refine y_iload_n dL_law_1244 rfl 3 rfl ?_
  refine y_iconst (v := 2) dL_law_1245 (by decide) ?_
  refine y_iadd dL_law_1246 ?_
  refine y_sld (xin (k := 2) hi hL (by decide)) dL_law_1247 ?_
  refine y_aload_n dL_law_1248 rfl 0 rfl ?_
  refine y_iload_n dL_law_1249 rfl 3 rfl ?_
  refine y_iconst (v := 3) dL_law_1250 (by decide) ?_
  refine y_iadd dL_law_1251 ?_
  refine y_sld (xin (k := 3) hi hL (by decide)) dL_law_1252 ?_
  refine y_aload_n dL_law_1253 rfl 0 rfl ?_
  refine y_iload_n dL_law_1254 rfl 3 rfl ?_
  refine y_iconst (v := 4) dL_law_1255 (by decide) ?_
  refine y_iadd dL_law_1256 ?_
  refine y_sld (xin (k := 4) hi hL (by decide)) dL_law_1257 ?_
  refine y_callV (M' := m_X11_otherwise) (t := 0) (i := 0) (k := 0) (As := [.int (xs (nI i + 1).toNatClampNeg), .int (xs (nI i + 2).toNatClampNeg), .int (xs (nI i + 3).toNatClampNeg), .int (xs (nI i + 4).toNatClampNeg)]) (rest := []) hc0 hs0 kl_L_122 oy_X11_otherwise ⟨Nat.le_of_ble_eq_true rfl, Nat.le_of_ble_eq_true rfl⟩ rfl rfl rfl rfl (Nat.le_of_ble_eq_true rfl) rfl dL_law_1258 (c_X11_otherwise h1) (fun v τ hq => ?_)
  obtain ⟨rfl, hτ⟩ := hq
  subst τ
  change ZL _ _ _ _ _ _ _ _ [.int r] _
  refine y_aload_n dL_law_1261 rfl 2 rfl ?_
  refine y_aload_n dL_law_1262 rfl 0 rfl ?_
  refine y_iload_n dL_law_1263 rfl 3 rfl ?_
  refine y_iconst (v := 1) dL_law_1264 (by decide) ?_
  refine y_iadd dL_law_1265 ?_
  refine y_sld (xin (k := 1) hi hL (by decide)) dL_law_1266 ?_
  refine y_aload_n dL_law_1267 rfl 0 rfl ?_
  refine y_iload_n dL_law_1268 rfl 3 rfl ?_
  refine y_iconst (v := 2) dL_law_1269 (by decide) ?_
  refine y_iadd dL_law_1270 ?_
  refine y_sld (xin (k := 2) hi hL (by decide)) dL_law_1271 ?_
  refine y_aload_n dL_law_1272 rfl 0 rfl ?_
  refine y_iload_n dL_law_1273 rfl 3 rfl ?_
  refine y_iconst (v := 3) dL_law_1274 (by decide) ?_
  refine y_iadd dL_law_1275 ?_
  refine y_sld (xin (k := 3) hi hL (by decide)) dL_law_1276 ?_
  refine y_aload_n dL_law_1277 rfl 0 rfl ?_
  refine y_iload_n dL_law_1278 rfl 3 rfl ?_
  refine y_iconst (v := 4) dL_law_1279 (by decide) ?_
  refine y_iadd dL_law_1280 ?_
  refine y_sld (xin (k := 4) hi hL (by decide)) dL_law_1281 ?_
  refine y_callV (M' := m_X12_otherwise) (t := 3) (i := 0) (k := 0) (As := [.int (xs (nI i + 1).toNatClampNeg), .int (xs (nI i + 2).toNatClampNeg), .int (xs (nI i + 3).toNatClampNeg), .int (xs (nI i + 4).toNatClampNeg)]) (rest := [.int r]) hc0 hs0 kl_L_125 oy_X12_otherwise ⟨Nat.le_of_ble_eq_true rfl, Nat.le_of_ble_eq_true rfl⟩ rfl rfl rfl rfl (Nat.le_of_ble_eq_true rfl) rfl dL_law_1282 (c_X12_otherwise h2) (fun v τ hq => ?_)
  obtain ⟨rfl, hτ⟩ := hq
  subst τ
  change ZL _ _ _ _ _ _ _ _ [.int r, .int r] _
  refine y_icmp_eq (tgt := 2124) dL_law_1285 (by decide) (fun _ => ?_) (fun q => ?_)
  · exact kk
  · exact absurd rfl q
set_option maxRecDepth 20000 in
theorem lc_26 {b L : Nat} {xs : Nat → Int32} {S : Shp} {cells slots i : Nat} {σ σ1 σ2 : Mm} {r : Int32} (hL : L ≤ 3584) (hi : i + 7 ≤ L) (hc0 : cells ≤ 600000) (hs0 : slots ≤ 7302250) (h1 : F_X11_free (xs (nI i + 1).toNatClampNeg) (xs (nI i + 2).toNatClampNeg) (xs (nI i + 3).toNatClampNeg) (xs (nI i + 4).toNatClampNeg) (xs (nI i + 5).toNatClampNeg) σ = some (r, σ1)) (h2 : F_X12_free (xs (nI i + 1).toNatClampNeg) (xs (nI i + 2).toNatClampNeg) (xs (nI i + 3).toNatClampNeg) (xs (nI i + 4).toNatClampNeg) (xs (nI i + 5).toNatClampNeg) σ1 = some (r, σ2)) (kk : ZL b L xs S cells slots 2124 [(0, .ref b), (1, .ref (sL S 0 0 0)), (2, .ref (sL S 3 0 0)), (3, .int (nI i))] [] σ2) : ZL b L xs S cells slots 1290 [(0, .ref b), (1, .ref (sL S 0 0 0)), (2, .ref (sL S 3 0 0)), (3, .int (nI i))] [] σ := by
  refine y_aload_n dL_law_1290 rfl 1 rfl ?_
  refine y_aload_n dL_law_1291 rfl 0 rfl ?_
  refine y_iload_n dL_law_1292 rfl 3 rfl ?_
  refine y_iconst (v := 1) dL_law_1293 (by decide) ?_
  refine y_iadd dL_law_1294 ?_
  refine y_sld (xin (k := 1) hi hL (by decide)) dL_law_1295 ?_
  refine y_aload_n dL_law_1296 rfl 0 rfl ?_
  refine y_iload_n dL_law_1297 rfl 3 rfl ?_
  refine y_iconst (v := 2) dL_law_1298 (by decide) ?_
  refine y_iadd dL_law_1299 ?_
  refine y_sld (xin (k := 2) hi hL (by decide)) dL_law_1300 ?_
  refine y_aload_n dL_law_1301 rfl 0 rfl ?_
  refine y_iload_n dL_law_1302 rfl 3 rfl ?_
  refine y_iconst (v := 3) dL_law_1303 (by decide) ?_
  refine y_iadd dL_law_1304 ?_
  refine y_sld (xin (k := 3) hi hL (by decide)) dL_law_1305 ?_
  refine y_aload_n dL_law_1306 rfl 0 rfl ?_
  refine y_iload_n dL_law_1307 rfl 3 rfl ?_
  refine y_iconst (v := 4) dL_law_1308 (by decide) ?_
  refine y_iadd dL_law_1309 ?_
  refine y_sld (xin (k := 4) hi hL (by decide)) dL_law_1310 ?_
  refine y_aload_n dL_law_1311 rfl 0 rfl ?_
  refine y_iload_n dL_law_1312 rfl 3 rfl ?_
  refine y_iconst (v := 5) dL_law_1313 (by decide) ?_
  refine y_iadd dL_law_1314 ?_
  refine y_sld (xin (k := 5) hi hL (by decide)) dL_law_1315 ?_
  refine y_callV (M' := m_X11_free) (t := 0) (i := 0) (k := 0) (As := [.int (xs (nI i + 1).toNatClampNeg), .int (xs (nI i + 2).toNatClampNeg), .int (xs (nI i + 3).toNatClampNeg), .int (xs (nI i + 4).toNatClampNeg), .int (xs (nI i + 5).toNatClampNeg)]) (rest := []) hc0 hs0 kl_L_126 oy_X11_free ⟨Nat.le_of_ble_eq_true rfl, Nat.le_of_ble_eq_true rfl⟩ rfl rfl rfl rfl (Nat.le_of_ble_eq_true rfl) rfl dL_law_1316 (c_X11_free h1) (fun v τ hq => ?_)
  obtain ⟨rfl, hτ⟩ := hq
  subst τ
  change ZL _ _ _ _ _ _ _ _ [.int r] _
  refine y_aload_n dL_law_1319 rfl 2 rfl ?_
  refine y_aload_n dL_law_1320 rfl 0 rfl ?_
  refine y_iload_n dL_law_1321 rfl 3 rfl ?_
  refine y_iconst (v := 1) dL_law_1322 (by decide) ?_
  refine y_iadd dL_law_1323 ?_
  refine y_sld (xin (k := 1) hi hL (by decide)) dL_law_1324 ?_
  refine y_aload_n dL_law_1325 rfl 0 rfl ?_
  refine y_iload_n dL_law_1326 rfl 3 rfl ?_
  refine y_iconst (v := 2) dL_law_1327 (by decide) ?_
  refine y_iadd dL_law_1328 ?_
  refine y_sld (xin (k := 2) hi hL (by decide)) dL_law_1329 ?_
  refine y_aload_n dL_law_1330 rfl 0 rfl ?_
  refine y_iload_n dL_law_1331 rfl 3 rfl ?_
  refine y_iconst (v := 3) dL_law_1332 (by decide) ?_
  refine y_iadd dL_law_1333 ?_
  refine y_sld (xin (k := 3) hi hL (by decide)) dL_law_1334 ?_
  refine y_aload_n dL_law_1335 rfl 0 rfl ?_
  refine y_iload_n dL_law_1336 rfl 3 rfl ?_
  refine y_iconst (v := 4) dL_law_1337 (by decide) ?_
  refine y_iadd dL_law_1338 ?_
  refine y_sld (xin (k := 4) hi hL (by decide)) dL_law_1339 ?_
  refine y_aload_n dL_law_1340 rfl 0 rfl ?_
  refine y_iload_n dL_law_1341 rfl 3 rfl ?_
  refine y_iconst (v := 5) dL_law_1342 (by decide) ?_
  refine y_iadd dL_law_1343 ?_
  refine y_sld (xin (k := 5) hi hL (by decide)) dL_law_1344 ?_
  refine y_callV (M' := m_X12_free) (t := 3) (i := 0) (k := 0) (As := [.int (xs (nI i + 1).toNatClampNeg), .int (xs (nI i + 2).toNatClampNeg), .int (xs (nI i + 3).toNatClampNeg), .int (xs (nI i + 4).toNatClampNeg), .int (xs (nI i + 5).toNatClampNeg)]) (rest := [.int r]) hc0 hs0 kl_L_129 oy_X12_free ⟨Nat.le_of_ble_eq_true rfl, Nat.le_of_ble_eq_true rfl⟩ rfl rfl rfl rfl (Nat.le_of_ble_eq_true rfl) rfl dL_law_1345 (c_X12_free h2) (fun v τ hq => ?_)
  obtain ⟨rfl, hτ⟩ := hq
  subst τ
  change ZL _ _ _ _ _ _ _ _ [.int r, .int r] _
  refine y_icmp_eq (tgt := 2124) dL_law_1348 (by decide) (fun _ => ?_) (fun q => ?_)
  · exact kk
  · exact absurd rfl q
set_option maxRecDepth 20000 in
theorem lc_27 {b L : Nat} {xs : Nat → Int32} {S : Shp} {cells slots i : Nat} {σ σ1 σ2 : Mm} {r : Int32} (hL : L ≤ 3584) (hi : i + 7 ≤ L) (hc0 : cells ≤ 600000) (hs0 : slots ≤ 7302250) (h1 : F_X11_freer (xs (nI i + 1).toNatClampNeg) (xs (nI i + 2).toNatClampNeg) (xs (nI i + 3).toNatClampNeg) (xs (nI i + 4).toNatClampNeg) (xs (nI i + 5).toNatClampNeg) (xs (nI i + 6).toNatClampNeg) σ = some (r, σ1)) (h2 : F_X12_freer (xs (nI i + 1).toNatClampNeg) (xs (nI i + 2).toNatClampNeg) (xs (nI i + 3).toNatClampNeg) (xs (nI i + 4).toNatClampNeg) (xs (nI i + 5).toNatClampNeg) (xs (nI i + 6).toNatClampNeg) σ1 = some (r, σ2)) (kk : ZL b L xs S cells slots 2124 [(0, .ref b), (1, .ref (sL S 0 0 0)), (2, .ref (sL S 3 0 0)), (3, .int (nI i))] [] σ2) : ZL b L xs S cells slots 1353 [(0, .ref b), (1, .ref (sL S 0 0 0)), (2, .ref (sL S 3 0 0)), (3, .int (nI i))] [] σ := by
  refine y_aload_n dL_law_1353 rfl 1 rfl ?_
  refine y_aload_n dL_law_1354 rfl 0 rfl ?_
  refine y_iload_n dL_law_1355 rfl 3 rfl ?_
  refine y_iconst (v := 1) dL_law_1356 (by decide) ?_
  refine y_iadd dL_law_1357 ?_
  refine y_sld (xin (k := 1) hi hL (by decide)) dL_law_1358 ?_
  refine y_aload_n dL_law_1359 rfl 0 rfl ?_
  refine y_iload_n dL_law_1360 rfl 3 rfl ?_
  refine y_iconst (v := 2) dL_law_1361 (by decide) ?_
  refine y_iadd dL_law_1362 ?_
  refine y_sld (xin (k := 2) hi hL (by decide)) dL_law_1363 ?_
  refine y_aload_n dL_law_1364 rfl 0 rfl ?_
  refine y_iload_n dL_law_1365 rfl 3 rfl ?_
  refine y_iconst (v := 3) dL_law_1366 (by decide) ?_
  refine y_iadd dL_law_1367 ?_
  refine y_sld (xin (k := 3) hi hL (by decide)) dL_law_1368 ?_
  refine y_aload_n dL_law_1369 rfl 0 rfl ?_
  refine y_iload_n dL_law_1370 rfl 3 rfl ?_
  refine y_iconst (v := 4) dL_law_1371 (by decide) ?_
  refine y_iadd dL_law_1372 ?_
  refine y_sld (xin (k := 4) hi hL (by decide)) dL_law_1373 ?_
  refine y_aload_n dL_law_1374 rfl 0 rfl ?_
  refine y_iload_n dL_law_1375 rfl 3 rfl ?_
  refine y_iconst (v := 5) dL_law_1376 (by decide) ?_
  refine y_iadd dL_law_1377 ?_
  refine y_sld (xin (k := 5) hi hL (by decide)) dL_law_1378 ?_
  refine y_aload_n dL_law_1379 rfl 0 rfl ?_
  refine y_iload_n dL_law_1380 rfl 3 rfl ?_
  refine y_bipush (v := 6) dL_law_1381 (by decide) ?_
  refine y_iadd dL_law_1383 ?_
  refine y_sld (xin (k := 6) hi hL (by decide)) dL_law_1384 ?_
  refine y_callV (M' := m_X11_freer) (t := 0) (i := 0) (k := 0) (As := [.int (xs (nI i + 1).toNatClampNeg), .int (xs (nI i + 2).toNatClampNeg), .int (xs (nI i + 3).toNatClampNeg), .int (xs (nI i + 4).toNatClampNeg), .int (xs (nI i + 5).toNatClampNeg), .int (xs (nI i + 6).toNatClampNeg)]) (rest := []) hc0 hs0 kl_L_130 oy_X11_freer ⟨Nat.le_of_ble_eq_true rfl, Nat.le_of_ble_eq_true rfl⟩ rfl rfl rfl rfl (Nat.le_of_ble_eq_true rfl) rfl dL_law_1385 (c_X11_freer h1) (fun v τ hq => ?_)
  obtain ⟨rfl, hτ⟩ := hq
  subst τ
  change ZL _ _ _ _ _ _ _ _ [.int r] _
  refine y_aload_n dL_law_1388 rfl 2 rfl ?_
  refine y_aload_n dL_law_1389 rfl 0 rfl ?_
  refine y_iload_n dL_law_1390 rfl 3 rfl ?_
  refine y_iconst (v := 1) dL_law_1391 (by decide) ?_
  refine y_iadd dL_law_1392 ?_
  refine y_sld (xin (k := 1) hi hL (by decide)) dL_law_1393 ?_
  refine y_aload_n dL_law_1394 rfl 0 rfl ?_
  refine y_iload_n dL_law_1395 rfl 3 rfl ?_
  refine y_iconst (v := 2) dL_law_1396 (by decide) ?_
  refine y_iadd dL_law_1397 ?_
  refine y_sld (xin (k := 2) hi hL (by decide)) dL_law_1398 ?_
  refine y_aload_n dL_law_1399 rfl 0 rfl ?_
  refine y_iload_n dL_law_1400 rfl 3 rfl ?_
  refine y_iconst (v := 3) dL_law_1401 (by decide) ?_
  refine y_iadd dL_law_1402 ?_
  refine y_sld (xin (k := 3) hi hL (by decide)) dL_law_1403 ?_
  refine y_aload_n dL_law_1404 rfl 0 rfl ?_
  refine y_iload_n dL_law_1405 rfl 3 rfl ?_
  refine y_iconst (v := 4) dL_law_1406 (by decide) ?_
  refine y_iadd dL_law_1407 ?_
  refine y_sld (xin (k := 4) hi hL (by decide)) dL_law_1408 ?_
  refine y_aload_n dL_law_1409 rfl 0 rfl ?_
  refine y_iload_n dL_law_1410 rfl 3 rfl ?_
  refine y_iconst (v := 5) dL_law_1411 (by decide) ?_
  refine y_iadd dL_law_1412 ?_
  refine y_sld (xin (k := 5) hi hL (by decide)) dL_law_1413 ?_
  refine y_aload_n dL_law_1414 rfl 0 rfl ?_
  refine y_iload_n dL_law_1415 rfl 3 rfl ?_
  refine y_bipush (v := 6) dL_law_1416 (by decide) ?_
  refine y_iadd dL_law_1418 ?_
  refine y_sld (xin (k := 6) hi hL (by decide)) dL_law_1419 ?_
  refine y_callV (M' := m_X12_freer) (t := 3) (i := 0) (k := 0) (As := [.int (xs (nI i + 1).toNatClampNeg), .int (xs (nI i + 2).toNatClampNeg), .int (xs (nI i + 3).toNatClampNeg), .int (xs (nI i + 4).toNatClampNeg), .int (xs (nI i + 5).toNatClampNeg), .int (xs (nI i + 6).toNatClampNeg)]) (rest := [.int r]) hc0 hs0 kl_L_134 oy_X12_freer ⟨Nat.le_of_ble_eq_true rfl, Nat.le_of_ble_eq_true rfl⟩ rfl rfl rfl rfl (Nat.le_of_ble_eq_true rfl) rfl dL_law_1420 (c_X12_freer h2) (fun v τ hq => ?_)
  obtain ⟨rfl, hτ⟩ := hq
  subst τ
  change ZL _ _ _ _ _ _ _ _ [.int r, .int r] _
  refine y_icmp_eq (tgt := 2124) dL_law_1423 (by decide) (fun _ => ?_) (fun q => ?_)
  · exact kk
  · exact absurd rfl q
set_option maxRecDepth 20000 in
theorem lc_28 {b L : Nat} {xs : Nat → Int32} {S : Shp} {cells slots i : Nat} {σ σ1 σ2 : Mm} {r : Int32} (hL : L ≤ 3584) (hi : i + 7 ≤ L) (hc0 : cells ≤ 600000) (hs0 : slots ≤ 7302250) (h1 : F_X11_next (xs (nI i + 1).toNatClampNeg) (xs (nI i + 2).toNatClampNeg) (xs (nI i + 3).toNatClampNeg) σ = some (r, σ1)) (h2 : F_X12_next (xs (nI i + 1).toNatClampNeg) (xs (nI i + 2).toNatClampNeg) (xs (nI i + 3).toNatClampNeg) σ1 = some (r, σ2)) (kk : ZL b L xs S cells slots 2124 [(0, .ref b), (1, .ref (sL S 0 0 0)), (2, .ref (sL S 3 0 0)), (3, .int (nI i))] [] σ2) : ZL b L xs S cells slots 1428 [(0, .ref b), (1, .ref (sL S 0 0 0)), (2, .ref (sL S 3 0 0)), (3, .int (nI i))] [] σ := by
  refine y_aload_n dL_law_1428 rfl 1 rfl ?_
  refine y_aload_n dL_law_1429 rfl 0 rfl ?_
  refine y_iload_n dL_law_1430 rfl 3 rfl ?_
  refine y_iconst (v := 1) dL_law_1431 (by decide) ?_
  refine y_iadd dL_law_1432 ?_
  refine y_sld (xin (k := 1) hi hL (by decide)) dL_law_1433 ?_
  refine y_aload_n dL_law_1434 rfl 0 rfl ?_
  refine y_iload_n dL_law_1435 rfl 3 rfl ?_
  refine y_iconst (v := 2) dL_law_1436 (by decide) ?_
  refine y_iadd dL_law_1437 ?_
  refine y_sld (xin (k := 2) hi hL (by decide)) dL_law_1438 ?_
  refine y_aload_n dL_law_1439 rfl 0 rfl ?_
  refine y_iload_n dL_law_1440 rfl 3 rfl ?_
  refine y_iconst (v := 3) dL_law_1441 (by decide) ?_
  refine y_iadd dL_law_1442 ?_
  refine y_sld (xin (k := 3) hi hL (by decide)) dL_law_1443 ?_
  refine y_callV (M' := m_X11_next) (t := 0) (i := 0) (k := 0) (As := [.int (xs (nI i + 1).toNatClampNeg), .int (xs (nI i + 2).toNatClampNeg), .int (xs (nI i + 3).toNatClampNeg)]) (rest := []) hc0 hs0 kl_L_135 oy_X11_next ⟨Nat.le_of_ble_eq_true rfl, Nat.le_of_ble_eq_true rfl⟩ rfl rfl rfl rfl (Nat.le_of_ble_eq_true rfl) rfl dL_law_1444 (c_X11_next h1) (fun v τ hq => ?_)
  obtain ⟨rfl, hτ⟩ := hq
  subst τ
  change ZL _ _ _ _ _ _ _ _ [.int r] _
  refine y_aload_n dL_law_1447 rfl 2 rfl ?_
  refine y_aload_n dL_law_1448 rfl 0 rfl ?_
  refine y_iload_n dL_law_1449 rfl 3 rfl ?_
  refine y_iconst (v := 1) dL_law_1450 (by decide) ?_
  refine y_iadd dL_law_1451 ?_
  refine y_sld (xin (k := 1) hi hL (by decide)) dL_law_1452 ?_
  refine y_aload_n dL_law_1453 rfl 0 rfl ?_
  refine y_iload_n dL_law_1454 rfl 3 rfl ?_
  refine y_iconst (v := 2) dL_law_1455 (by decide) ?_
  refine y_iadd dL_law_1456 ?_
  refine y_sld (xin (k := 2) hi hL (by decide)) dL_law_1457 ?_
  refine y_aload_n dL_law_1458 rfl 0 rfl ?_
  refine y_iload_n dL_law_1459 rfl 3 rfl ?_
  refine y_iconst (v := 3) dL_law_1460 (by decide) ?_
  refine y_iadd dL_law_1461 ?_
  refine y_sld (xin (k := 3) hi hL (by decide)) dL_law_1462 ?_
  refine y_callV (M' := m_X12_next) (t := 3) (i := 0) (k := 0) (As := [.int (xs (nI i + 1).toNatClampNeg), .int (xs (nI i + 2).toNatClampNeg), .int (xs (nI i + 3).toNatClampNeg)]) (rest := [.int r]) hc0 hs0 kl_L_138 oy_X12_next ⟨Nat.le_of_ble_eq_true rfl, Nat.le_of_ble_eq_true rfl⟩ rfl rfl rfl rfl (Nat.le_of_ble_eq_true rfl) rfl dL_law_1463 (c_X12_next h2) (fun v τ hq => ?_)
  obtain ⟨rfl, hτ⟩ := hq
  subst τ
  change ZL _ _ _ _ _ _ _ _ [.int r, .int r] _
  refine y_icmp_eq (tgt := 2124) dL_law_1466 (by decide) (fun _ => ?_) (fun q => ?_)
  · exact kk
  · exact absurd rfl q
set_option maxRecDepth 20000 in
theorem lc_29 {b L : Nat} {xs : Nat → Int32} {S : Shp} {cells slots i : Nat} {σ σ1 σ2 : Mm} {r : Int32} (hL : L ≤ 3584) (hi : i + 7 ≤ L) (hc0 : cells ≤ 600000) (hs0 : slots ≤ 7302250) (h1 : F_X11_site (xs (nI i + 1).toNatClampNeg) (xs (nI i + 2).toNatClampNeg) σ = some (r, σ1)) (h2 : F_X12_site (xs (nI i + 1).toNatClampNeg) (xs (nI i + 2).toNatClampNeg) σ1 = some (r, σ2)) (kk : ZL b L xs S cells slots 2124 [(0, .ref b), (1, .ref (sL S 0 0 0)), (2, .ref (sL S 3 0 0)), (3, .int (nI i))] [] σ2) : ZL b L xs S cells slots 1471 [(0, .ref b), (1, .ref (sL S 0 0 0)), (2, .ref (sL S 3 0 0)), (3, .int (nI i))] [] σ := by
  refine y_aload_n dL_law_1471 rfl 1 rfl ?_
  refine y_aload_n dL_law_1472 rfl 0 rfl ?_
  refine y_iload_n dL_law_1473 rfl 3 rfl ?_
  refine y_iconst (v := 1) dL_law_1474 (by decide) ?_
  refine y_iadd dL_law_1475 ?_
  refine y_sld (xin (k := 1) hi hL (by decide)) dL_law_1476 ?_
  refine y_aload_n dL_law_1477 rfl 0 rfl ?_
  refine y_iload_n dL_law_1478 rfl 3 rfl ?_
  refine y_iconst (v := 2) dL_law_1479 (by decide) ?_
  refine y_iadd dL_law_1480 ?_
  refine y_sld (xin (k := 2) hi hL (by decide)) dL_law_1481 ?_
  refine y_callV (M' := m_X11_site) (t := 0) (i := 0) (k := 0) (As := [.int (xs (nI i + 1).toNatClampNeg), .int (xs (nI i + 2).toNatClampNeg)]) (rest := []) hc0 hs0 kl_L_139 oy_X11_site ⟨Nat.le_of_ble_eq_true rfl, Nat.le_of_ble_eq_true rfl⟩ rfl rfl rfl rfl (Nat.le_of_ble_eq_true rfl) rfl dL_law_1482 (c_X11_site h1) (fun v τ hq => ?_)
  obtain ⟨rfl, hτ⟩ := hq
  subst τ
  change ZL _ _ _ _ _ _ _ _ [.int r] _
  refine y_aload_n dL_law_1485 rfl 2 rfl ?_
  refine y_aload_n dL_law_1486 rfl 0 rfl ?_
  refine y_iload_n dL_law_1487 rfl 3 rfl ?_
  refine y_iconst (v := 1) dL_law_1488 (by decide) ?_
  refine y_iadd dL_law_1489 ?_
  refine y_sld (xin (k := 1) hi hL (by decide)) dL_law_1490 ?_
  refine y_aload_n dL_law_1491 rfl 0 rfl ?_
  refine y_iload_n dL_law_1492 rfl 3 rfl ?_
  refine y_iconst (v := 2) dL_law_1493 (by decide) ?_
  refine y_iadd dL_law_1494 ?_
  refine y_sld (xin (k := 2) hi hL (by decide)) dL_law_1495 ?_
  refine y_callV (M' := m_X12_site) (t := 3) (i := 0) (k := 0) (As := [.int (xs (nI i + 1).toNatClampNeg), .int (xs (nI i + 2).toNatClampNeg)]) (rest := [.int r]) hc0 hs0 kl_L_142 oy_X12_site ⟨Nat.le_of_ble_eq_true rfl, Nat.le_of_ble_eq_true rfl⟩ rfl rfl rfl rfl (Nat.le_of_ble_eq_true rfl) rfl dL_law_1496 (c_X12_site h2) (fun v τ hq => ?_)
  obtain ⟨rfl, hτ⟩ := hq
  subst τ
  change ZL _ _ _ _ _ _ _ _ [.int r, .int r] _
  refine y_icmp_eq (tgt := 2124) dL_law_1499 (by decide) (fun _ => ?_) (fun q => ?_)
  · exact kk
  · exact absurd rfl q
set_option maxRecDepth 20000 in
theorem lc_30 {b L : Nat} {xs : Nat → Int32} {S : Shp} {cells slots i : Nat} {σ σ1 σ2 : Mm} {r : Int32} (hL : L ≤ 3584) (hi : i + 7 ≤ L) (hc0 : cells ≤ 600000) (hs0 : slots ≤ 7302250) (h1 : F_X11_clear  σ = some (r, σ1)) (h2 : F_X12_clear  σ1 = some (r, σ2)) (kk : ZL b L xs S cells slots 2124 [(0, .ref b), (1, .ref (sL S 0 0 0)), (2, .ref (sL S 3 0 0)), (3, .int (nI i))] [] σ2) : ZL b L xs S cells slots 1504 [(0, .ref b), (1, .ref (sL S 0 0 0)), (2, .ref (sL S 3 0 0)), (3, .int (nI i))] [] σ := by
  refine y_aload_n dL_law_1504 rfl 1 rfl ?_
  refine y_callV (M' := m_X11_clear) (t := 0) (i := 0) (k := 0) (As := []) (rest := []) hc0 hs0 kl_L_143 oy_X11_clear ⟨Nat.le_of_ble_eq_true rfl, Nat.le_of_ble_eq_true rfl⟩ rfl rfl rfl rfl (Nat.le_of_ble_eq_true rfl) rfl dL_law_1505 (c_X11_clear h1) (fun v τ hq => ?_)
  obtain ⟨rfl, hτ⟩ := hq
  subst τ
  change ZL _ _ _ _ _ _ _ _ [.int r] _
  refine y_aload_n dL_law_1508 rfl 2 rfl ?_
  refine y_callV (M' := m_X12_clear) (t := 3) (i := 0) (k := 0) (As := []) (rest := [.int r]) hc0 hs0 kl_L_146 oy_X12_clear ⟨Nat.le_of_ble_eq_true rfl, Nat.le_of_ble_eq_true rfl⟩ rfl rfl rfl rfl (Nat.le_of_ble_eq_true rfl) rfl dL_law_1509 (c_X12_clear h2) (fun v τ hq => ?_)
  obtain ⟨rfl, hτ⟩ := hq
  subst τ
  change ZL _ _ _ _ _ _ _ _ [.int r, .int r] _
  refine y_icmp_eq (tgt := 2124) dL_law_1512 (by decide) (fun _ => ?_) (fun q => ?_)
  · exact kk
  · exact absurd rfl q
set_option maxRecDepth 20000 in
theorem lc_31 {b L : Nat} {xs : Nat → Int32} {S : Shp} {cells slots i : Nat} {σ σ1 σ2 : Mm} {r : Int32} (hL : L ≤ 3584) (hi : i + 7 ≤ L) (hc0 : cells ≤ 600000) (hs0 : slots ≤ 7302250) (h1 : F_X11_pointing (xs (nI i + 1).toNatClampNeg) (xs (nI i + 2).toNatClampNeg) (if xs (nI i + 3).toNatClampNeg = 0 then 0 else 1) σ = some (r, σ1)) (h2 : F_X12_pointing (xs (nI i + 1).toNatClampNeg) (xs (nI i + 2).toNatClampNeg) (if xs (nI i + 3).toNatClampNeg = 0 then 0 else 1) σ1 = some (r, σ2)) (kk : ZL b L xs S cells slots 2124 [(0, .ref b), (1, .ref (sL S 0 0 0)), (2, .ref (sL S 3 0 0)), (3, .int (nI i))] [] σ2) : ZL b L xs S cells slots 1517 [(0, .ref b), (1, .ref (sL S 0 0 0)), (2, .ref (sL S 3 0 0)), (3, .int (nI i))] [] σ := by
  refine y_aload_n dL_law_1517 rfl 1 rfl ?_
  refine y_aload_n dL_law_1518 rfl 0 rfl ?_
  refine y_iload_n dL_law_1519 rfl 3 rfl ?_
  refine y_iconst (v := 1) dL_law_1520 (by decide) ?_
  refine y_iadd dL_law_1521 ?_
  refine y_sld (xin (k := 1) hi hL (by decide)) dL_law_1522 ?_
  refine y_aload_n dL_law_1523 rfl 0 rfl ?_
  refine y_iload_n dL_law_1524 rfl 3 rfl ?_
  refine y_iconst (v := 2) dL_law_1525 (by decide) ?_
  refine y_iadd dL_law_1526 ?_
  refine y_sld (xin (k := 2) hi hL (by decide)) dL_law_1527 ?_
  refine y_aload_n dL_law_1528 rfl 0 rfl ?_
  refine y_iload_n dL_law_1529 rfl 3 rfl ?_
  refine y_iconst (v := 3) dL_law_1530 (by decide) ?_
  refine y_iadd dL_law_1531 ?_
  refine y_sld (xin (k := 3) hi hL (by decide)) dL_law_1532 ?_
  refine y_if_eq (tgt := 1540) dL_law_1533 (by decide) (fun qb => ?_) (fun qb => ?_)
  · rw [if_pos qb] at h1 h2
    refine y_iconst (v := 0) dL_law_1540 (by decide) ?_
    refine y_callV (M' := m_X11_pointing) (t := 0) (i := 0) (k := 0) (As := [.int (xs (nI i + 1).toNatClampNeg), .int (xs (nI i + 2).toNatClampNeg), .int 0]) (rest := []) hc0 hs0 kl_L_147 oy_X11_pointing ⟨Nat.le_of_ble_eq_true rfl, Nat.le_of_ble_eq_true rfl⟩ rfl rfl rfl rfl (Nat.le_of_ble_eq_true rfl) rfl dL_law_1541 (c_X11_pointing h1) (fun v τ hq => ?_)
    obtain ⟨rfl, hτ⟩ := hq
    subst τ
    change ZL _ _ _ _ _ _ _ _ [.int r] _
    refine y_aload_n dL_law_1544 rfl 2 rfl ?_
    refine y_aload_n dL_law_1545 rfl 0 rfl ?_
    refine y_iload_n dL_law_1546 rfl 3 rfl ?_
    refine y_iconst (v := 1) dL_law_1547 (by decide) ?_
    refine y_iadd dL_law_1548 ?_
    refine y_sld (xin (k := 1) hi hL (by decide)) dL_law_1549 ?_
    refine y_aload_n dL_law_1550 rfl 0 rfl ?_
    refine y_iload_n dL_law_1551 rfl 3 rfl ?_
    refine y_iconst (v := 2) dL_law_1552 (by decide) ?_
    refine y_iadd dL_law_1553 ?_
    refine y_sld (xin (k := 2) hi hL (by decide)) dL_law_1554 ?_
    refine y_aload_n dL_law_1555 rfl 0 rfl ?_
    refine y_iload_n dL_law_1556 rfl 3 rfl ?_
    refine y_iconst (v := 3) dL_law_1557 (by decide) ?_
    refine y_iadd dL_law_1558 ?_
    refine y_sld (xin (k := 3) hi hL (by decide)) dL_law_1559 ?_
    refine y_if_eq (tgt := 1567) dL_law_1560 (by decide) (fun _ => ?_) (fun q2 => absurd qb q2)
    refine y_iconst (v := 0) dL_law_1567 (by decide) ?_
    refine y_callV (M' := m_X12_pointing) (t := 3) (i := 0) (k := 0) (As := [.int (xs (nI i + 1).toNatClampNeg), .int (xs (nI i + 2).toNatClampNeg), .int 0]) (rest := [.int r]) hc0 hs0 kl_L_151 oy_X12_pointing ⟨Nat.le_of_ble_eq_true rfl, Nat.le_of_ble_eq_true rfl⟩ rfl rfl rfl rfl (Nat.le_of_ble_eq_true rfl) rfl dL_law_1568 (c_X12_pointing h2) (fun v τ hq => ?_)
    obtain ⟨rfl, hτ⟩ := hq
    subst τ
    change ZL _ _ _ _ _ _ _ _ [.int r, .int r] _
    refine y_icmp_eq (tgt := 2124) dL_law_1571 (by decide) (fun _ => ?_) (fun q => ?_)
    · exact kk
    · exact absurd rfl q
  · rw [if_neg qb] at h1 h2
    refine y_iconst (v := 1) dL_law_1536 (by decide) ?_
    refine y_goto (tgt := 1541) dL_law_1537 (by decide) ?_
    refine y_callV (M' := m_X11_pointing) (t := 0) (i := 0) (k := 0) (As := [.int (xs (nI i + 1).toNatClampNeg), .int (xs (nI i + 2).toNatClampNeg), .int 1]) (rest := []) hc0 hs0 kl_L_147 oy_X11_pointing ⟨Nat.le_of_ble_eq_true rfl, Nat.le_of_ble_eq_true rfl⟩ rfl rfl rfl rfl (Nat.le_of_ble_eq_true rfl) rfl dL_law_1541 (c_X11_pointing h1) (fun v τ hq => ?_)
    obtain ⟨rfl, hτ⟩ := hq
    subst τ
    change ZL _ _ _ _ _ _ _ _ [.int r] _
    refine y_aload_n dL_law_1544 rfl 2 rfl ?_
    refine y_aload_n dL_law_1545 rfl 0 rfl ?_
    refine y_iload_n dL_law_1546 rfl 3 rfl ?_
    refine y_iconst (v := 1) dL_law_1547 (by decide) ?_
    refine y_iadd dL_law_1548 ?_
    refine y_sld (xin (k := 1) hi hL (by decide)) dL_law_1549 ?_
    refine y_aload_n dL_law_1550 rfl 0 rfl ?_
    refine y_iload_n dL_law_1551 rfl 3 rfl ?_
    refine y_iconst (v := 2) dL_law_1552 (by decide) ?_
    refine y_iadd dL_law_1553 ?_
    refine y_sld (xin (k := 2) hi hL (by decide)) dL_law_1554 ?_
    refine y_aload_n dL_law_1555 rfl 0 rfl ?_
    refine y_iload_n dL_law_1556 rfl 3 rfl ?_
    refine y_iconst (v := 3) dL_law_1557 (by decide) ?_
    refine y_iadd dL_law_1558 ?_
    refine y_sld (xin (k := 3) hi hL (by decide)) dL_law_1559 ?_
    refine y_if_eq (tgt := 1567) dL_law_1560 (by decide) (fun q2 => absurd q2 qb) (fun _ => ?_)
    refine y_iconst (v := 1) dL_law_1563 (by decide) ?_
    refine y_goto (tgt := 1568) dL_law_1564 (by decide) ?_
    refine y_callV (M' := m_X12_pointing) (t := 3) (i := 0) (k := 0) (As := [.int (xs (nI i + 1).toNatClampNeg), .int (xs (nI i + 2).toNatClampNeg), .int 1]) (rest := [.int r]) hc0 hs0 kl_L_151 oy_X12_pointing ⟨Nat.le_of_ble_eq_true rfl, Nat.le_of_ble_eq_true rfl⟩ rfl rfl rfl rfl (Nat.le_of_ble_eq_true rfl) rfl dL_law_1568 (c_X12_pointing h2) (fun v τ hq => ?_)
    obtain ⟨rfl, hτ⟩ := hq
    subst τ
    change ZL _ _ _ _ _ _ _ _ [.int r, .int r] _
    refine y_icmp_eq (tgt := 2124) dL_law_1571 (by decide) (fun _ => ?_) (fun q => ?_)
    · exact kk
    · exact absurd rfl q
set_option maxRecDepth 20000 in
theorem lc_32 {b L : Nat} {xs : Nat → Int32} {S : Shp} {cells slots i : Nat} {σ σ1 σ2 : Mm} {r : Int64} (hL : L ≤ 3584) (hi : i + 7 ≤ L) (hc0 : cells ≤ 600000) (hs0 : slots ≤ 7302250) (h1 : F_X11_chance (xs (nI i + 1).toNatClampNeg) (xs (nI i + 2).toNatClampNeg) σ = some (r, σ1)) (h2 : F_X12_chance (xs (nI i + 1).toNatClampNeg) (xs (nI i + 2).toNatClampNeg) σ1 = some (r, σ2)) (kk : ZL b L xs S cells slots 2124 [(0, .ref b), (1, .ref (sL S 0 0 0)), (2, .ref (sL S 3 0 0)), (3, .int (nI i))] [] σ2) : ZL b L xs S cells slots 1576 [(0, .ref b), (1, .ref (sL S 0 0 0)), (2, .ref (sL S 3 0 0)), (3, .int (nI i))] [] σ := by
  refine y_aload_n dL_law_1576 rfl 1 rfl ?_
  refine y_aload_n dL_law_1577 rfl 0 rfl ?_
  refine y_iload_n dL_law_1578 rfl 3 rfl ?_
  refine y_iconst (v := 1) dL_law_1579 (by decide) ?_
  refine y_iadd dL_law_1580 ?_
  refine y_sld (xin (k := 1) hi hL (by decide)) dL_law_1581 ?_
  refine y_aload_n dL_law_1582 rfl 0 rfl ?_
  refine y_iload_n dL_law_1583 rfl 3 rfl ?_
  refine y_iconst (v := 2) dL_law_1584 (by decide) ?_
  refine y_iadd dL_law_1585 ?_
  refine y_sld (xin (k := 2) hi hL (by decide)) dL_law_1586 ?_
  refine y_callV (M' := m_X11_chance) (t := 0) (i := 0) (k := 0) (As := [.int (xs (nI i + 1).toNatClampNeg), .int (xs (nI i + 2).toNatClampNeg)]) (rest := []) hc0 hs0 kl_L_152 oy_X11_chance ⟨Nat.le_of_ble_eq_true rfl, Nat.le_of_ble_eq_true rfl⟩ rfl rfl rfl rfl (Nat.le_of_ble_eq_true rfl) rfl dL_law_1587 (c_X11_chance h1) (fun v τ hq => ?_)
  obtain ⟨rfl, hτ⟩ := hq
  subst τ
  change ZL _ _ _ _ _ _ _ _ [.long r] _
  refine y_aload_n dL_law_1590 rfl 2 rfl ?_
  refine y_aload_n dL_law_1591 rfl 0 rfl ?_
  refine y_iload_n dL_law_1592 rfl 3 rfl ?_
  refine y_iconst (v := 1) dL_law_1593 (by decide) ?_
  refine y_iadd dL_law_1594 ?_
  refine y_sld (xin (k := 1) hi hL (by decide)) dL_law_1595 ?_
  refine y_aload_n dL_law_1596 rfl 0 rfl ?_
  refine y_iload_n dL_law_1597 rfl 3 rfl ?_
  refine y_iconst (v := 2) dL_law_1598 (by decide) ?_
  refine y_iadd dL_law_1599 ?_
  refine y_sld (xin (k := 2) hi hL (by decide)) dL_law_1600 ?_
  refine y_callV (M' := m_X12_chance) (t := 3) (i := 0) (k := 0) (As := [.int (xs (nI i + 1).toNatClampNeg), .int (xs (nI i + 2).toNatClampNeg)]) (rest := [.long r]) hc0 hs0 kl_L_156 oy_X12_chance ⟨Nat.le_of_ble_eq_true rfl, Nat.le_of_ble_eq_true rfl⟩ rfl rfl rfl rfl (Nat.le_of_ble_eq_true rfl) rfl dL_law_1601 (c_X12_chance h2) (fun v τ hq => ?_)
  obtain ⟨rfl, hτ⟩ := hq
  subst τ
  change ZL _ _ _ _ _ _ _ _ [.long r, .long r] _
  refine y_lcmp dL_law_1604 ?_
  rw [lgc_refl]
  refine y_if_eq (tgt := 2124) dL_law_1605 (by decide) (fun _ => ?_) (fun q => absurd rfl q)
  exact kk
set_option maxRecDepth 20000 in
theorem lc_33 {b L : Nat} {xs : Nat → Int32} {S : Shp} {cells slots i : Nat} {σ σ1 σ2 : Mm} {r : Int32} (hL : L ≤ 3584) (hi : i + 7 ≤ L) (hc0 : cells ≤ 600000) (hs0 : slots ≤ 7302250) (h1 : F_X11_made (xs (nI i + 1).toNatClampNeg) (xs (nI i + 2).toNatClampNeg) (xs (nI i + 3).toNatClampNeg) σ = some (r, σ1)) (h2 : F_X12_made (xs (nI i + 1).toNatClampNeg) (xs (nI i + 2).toNatClampNeg) (xs (nI i + 3).toNatClampNeg) σ1 = some (r, σ2)) (kk : ZL b L xs S cells slots 2124 [(0, .ref b), (1, .ref (sL S 0 0 0)), (2, .ref (sL S 3 0 0)), (3, .int (nI i))] [] σ2) : ZL b L xs S cells slots 1610 [(0, .ref b), (1, .ref (sL S 0 0 0)), (2, .ref (sL S 3 0 0)), (3, .int (nI i))] [] σ := by
  refine y_aload_n dL_law_1610 rfl 1 rfl ?_
  refine y_aload_n dL_law_1611 rfl 0 rfl ?_
  refine y_iload_n dL_law_1612 rfl 3 rfl ?_
  refine y_iconst (v := 1) dL_law_1613 (by decide) ?_
  refine y_iadd dL_law_1614 ?_
  refine y_sld (xin (k := 1) hi hL (by decide)) dL_law_1615 ?_
  refine y_aload_n dL_law_1616 rfl 0 rfl ?_
  refine y_iload_n dL_law_1617 rfl 3 rfl ?_
  refine y_iconst (v := 2) dL_law_1618 (by decide) ?_
  refine y_iadd dL_law_1619 ?_
  refine y_sld (xin (k := 2) hi hL (by decide)) dL_law_1620 ?_
  refine y_aload_n dL_law_1621 rfl 0 rfl ?_
  refine y_iload_n dL_law_1622 rfl 3 rfl ?_
  refine y_iconst (v := 3) dL_law_1623 (by decide) ?_
  refine y_iadd dL_law_1624 ?_
  refine y_sld (xin (k := 3) hi hL (by decide)) dL_law_1625 ?_
  refine y_callV (M' := m_X11_made) (t := 0) (i := 0) (k := 0) (As := [.int (xs (nI i + 1).toNatClampNeg), .int (xs (nI i + 2).toNatClampNeg), .int (xs (nI i + 3).toNatClampNeg)]) (rest := []) hc0 hs0 kl_L_157 oy_X11_made ⟨Nat.le_of_ble_eq_true rfl, Nat.le_of_ble_eq_true rfl⟩ rfl rfl rfl rfl (Nat.le_of_ble_eq_true rfl) rfl dL_law_1626 (c_X11_made h1) (fun v τ hq => ?_)
  obtain ⟨rfl, hτ⟩ := hq
  subst τ
  change ZL _ _ _ _ _ _ _ _ [.int r] _
  refine y_aload_n dL_law_1629 rfl 2 rfl ?_
  refine y_aload_n dL_law_1630 rfl 0 rfl ?_
  refine y_iload_n dL_law_1631 rfl 3 rfl ?_
  refine y_iconst (v := 1) dL_law_1632 (by decide) ?_
  refine y_iadd dL_law_1633 ?_
  refine y_sld (xin (k := 1) hi hL (by decide)) dL_law_1634 ?_
  refine y_aload_n dL_law_1635 rfl 0 rfl ?_
  refine y_iload_n dL_law_1636 rfl 3 rfl ?_
  refine y_iconst (v := 2) dL_law_1637 (by decide) ?_
  refine y_iadd dL_law_1638 ?_
  refine y_sld (xin (k := 2) hi hL (by decide)) dL_law_1639 ?_
  refine y_aload_n dL_law_1640 rfl 0 rfl ?_
  refine y_iload_n dL_law_1641 rfl 3 rfl ?_
  refine y_iconst (v := 3) dL_law_1642 (by decide) ?_
  refine y_iadd dL_law_1643 ?_
  refine y_sld (xin (k := 3) hi hL (by decide)) dL_law_1644 ?_
  refine y_callV (M' := m_X12_made) (t := 3) (i := 0) (k := 0) (As := [.int (xs (nI i + 1).toNatClampNeg), .int (xs (nI i + 2).toNatClampNeg), .int (xs (nI i + 3).toNatClampNeg)]) (rest := [.int r]) hc0 hs0 kl_L_160 oy_X12_made ⟨Nat.le_of_ble_eq_true rfl, Nat.le_of_ble_eq_true rfl⟩ rfl rfl rfl rfl (Nat.le_of_ble_eq_true rfl) rfl dL_law_1645 (c_X12_made h2) (fun v τ hq => ?_)
  obtain ⟨rfl, hτ⟩ := hq
  subst τ
  change ZL _ _ _ _ _ _ _ _ [.int r, .int r] _
  refine y_icmp_eq (tgt := 2124) dL_law_1648 (by decide) (fun _ => ?_) (fun q => ?_)
  · exact kk
  · exact absurd rfl q
set_option maxRecDepth 20000 in
theorem lc_34 {b L : Nat} {xs : Nat → Int32} {S : Shp} {cells slots i : Nat} {σ σ1 σ2 : Mm} {r : Int32} (hL : L ≤ 3584) (hi : i + 7 ≤ L) (hc0 : cells ≤ 600000) (hs0 : slots ≤ 7302250) (h1 : F_X11_madeAt (xs (nI i + 1).toNatClampNeg) (xs (nI i + 2).toNatClampNeg) (xs (nI i + 3).toNatClampNeg) (xs (nI i + 4).toNatClampNeg) (xs (nI i + 5).toNatClampNeg) σ = some (r, σ1)) (h2 : F_X12_madeAt (xs (nI i + 1).toNatClampNeg) (xs (nI i + 2).toNatClampNeg) (xs (nI i + 3).toNatClampNeg) (xs (nI i + 4).toNatClampNeg) (xs (nI i + 5).toNatClampNeg) σ1 = some (r, σ2)) (kk : ZL b L xs S cells slots 2124 [(0, .ref b), (1, .ref (sL S 0 0 0)), (2, .ref (sL S 3 0 0)), (3, .int (nI i))] [] σ2) : ZL b L xs S cells slots 1653 [(0, .ref b), (1, .ref (sL S 0 0 0)), (2, .ref (sL S 3 0 0)), (3, .int (nI i))] [] σ := by
  refine y_aload_n dL_law_1653 rfl 1 rfl ?_
  refine y_aload_n dL_law_1654 rfl 0 rfl ?_
  refine y_iload_n dL_law_1655 rfl 3 rfl ?_
  refine y_iconst (v := 1) dL_law_1656 (by decide) ?_
  refine y_iadd dL_law_1657 ?_
  refine y_sld (xin (k := 1) hi hL (by decide)) dL_law_1658 ?_
  refine y_aload_n dL_law_1659 rfl 0 rfl ?_
  refine y_iload_n dL_law_1660 rfl 3 rfl ?_
  refine y_iconst (v := 2) dL_law_1661 (by decide) ?_
  refine y_iadd dL_law_1662 ?_
  refine y_sld (xin (k := 2) hi hL (by decide)) dL_law_1663 ?_
  refine y_aload_n dL_law_1664 rfl 0 rfl ?_
  refine y_iload_n dL_law_1665 rfl 3 rfl ?_
  refine y_iconst (v := 3) dL_law_1666 (by decide) ?_
  refine y_iadd dL_law_1667 ?_
  refine y_sld (xin (k := 3) hi hL (by decide)) dL_law_1668 ?_
  refine y_aload_n dL_law_1669 rfl 0 rfl ?_
  refine y_iload_n dL_law_1670 rfl 3 rfl ?_
  refine y_iconst (v := 4) dL_law_1671 (by decide) ?_
  refine y_iadd dL_law_1672 ?_
  refine y_sld (xin (k := 4) hi hL (by decide)) dL_law_1673 ?_
  refine y_aload_n dL_law_1674 rfl 0 rfl ?_
  refine y_iload_n dL_law_1675 rfl 3 rfl ?_
  refine y_iconst (v := 5) dL_law_1676 (by decide) ?_
  refine y_iadd dL_law_1677 ?_
  refine y_sld (xin (k := 5) hi hL (by decide)) dL_law_1678 ?_
  refine y_callV (M' := m_X11_madeAt) (t := 0) (i := 0) (k := 0) (As := [.int (xs (nI i + 1).toNatClampNeg), .int (xs (nI i + 2).toNatClampNeg), .int (xs (nI i + 3).toNatClampNeg), .int (xs (nI i + 4).toNatClampNeg), .int (xs (nI i + 5).toNatClampNeg)]) (rest := []) hc0 hs0 kl_L_161 oy_X11_madeAt ⟨Nat.le_of_ble_eq_true rfl, Nat.le_of_ble_eq_true rfl⟩ rfl rfl rfl rfl (Nat.le_of_ble_eq_true rfl) rfl dL_law_1679 (c_X11_madeAt h1) (fun v τ hq => ?_)
  obtain ⟨rfl, hτ⟩ := hq
  subst τ
  change ZL _ _ _ _ _ _ _ _ [.int r] _
  refine y_aload_n dL_law_1682 rfl 2 rfl ?_
  refine y_aload_n dL_law_1683 rfl 0 rfl ?_
  refine y_iload_n dL_law_1684 rfl 3 rfl ?_
  refine y_iconst (v := 1) dL_law_1685 (by decide) ?_
  refine y_iadd dL_law_1686 ?_
  refine y_sld (xin (k := 1) hi hL (by decide)) dL_law_1687 ?_
  refine y_aload_n dL_law_1688 rfl 0 rfl ?_
  refine y_iload_n dL_law_1689 rfl 3 rfl ?_
  refine y_iconst (v := 2) dL_law_1690 (by decide) ?_
  refine y_iadd dL_law_1691 ?_
  refine y_sld (xin (k := 2) hi hL (by decide)) dL_law_1692 ?_
  refine y_aload_n dL_law_1693 rfl 0 rfl ?_
  refine y_iload_n dL_law_1694 rfl 3 rfl ?_
  refine y_iconst (v := 3) dL_law_1695 (by decide) ?_
  refine y_iadd dL_law_1696 ?_
  refine y_sld (xin (k := 3) hi hL (by decide)) dL_law_1697 ?_
  refine y_aload_n dL_law_1698 rfl 0 rfl ?_
  refine y_iload_n dL_law_1699 rfl 3 rfl ?_
  refine y_iconst (v := 4) dL_law_1700 (by decide) ?_
  refine y_iadd dL_law_1701 ?_
  refine y_sld (xin (k := 4) hi hL (by decide)) dL_law_1702 ?_
  refine y_aload_n dL_law_1703 rfl 0 rfl ?_
  refine y_iload_n dL_law_1704 rfl 3 rfl ?_
  refine y_iconst (v := 5) dL_law_1705 (by decide) ?_
  refine y_iadd dL_law_1706 ?_
  refine y_sld (xin (k := 5) hi hL (by decide)) dL_law_1707 ?_
  refine y_callV (M' := m_X12_madeAt) (t := 3) (i := 0) (k := 0) (As := [.int (xs (nI i + 1).toNatClampNeg), .int (xs (nI i + 2).toNatClampNeg), .int (xs (nI i + 3).toNatClampNeg), .int (xs (nI i + 4).toNatClampNeg), .int (xs (nI i + 5).toNatClampNeg)]) (rest := [.int r]) hc0 hs0 kl_L_164 oy_X12_madeAt ⟨Nat.le_of_ble_eq_true rfl, Nat.le_of_ble_eq_true rfl⟩ rfl rfl rfl rfl (Nat.le_of_ble_eq_true rfl) rfl dL_law_1708 (c_X12_madeAt h2) (fun v τ hq => ?_)
  obtain ⟨rfl, hτ⟩ := hq
  subst τ
  change ZL _ _ _ _ _ _ _ _ [.int r, .int r] _
  refine y_icmp_eq (tgt := 2124) dL_law_1711 (by decide) (fun _ => ?_) (fun q => ?_)
  · exact kk
  · exact absurd rfl q
set_option maxRecDepth 20000 in
theorem lc_35 {b L : Nat} {xs : Nat → Int32} {S : Shp} {cells slots i : Nat} {σ σ1 σ2 : Mm} {r : Int32} (hL : L ≤ 3584) (hi : i + 7 ≤ L) (hc0 : cells ≤ 600000) (hs0 : slots ≤ 7302250) (h1 : F_X11_odds (xs (nI i + 1).toNatClampNeg) (xs (nI i + 2).toNatClampNeg) (xs (nI i + 3).toNatClampNeg) (xs (nI i + 4).toNatClampNeg) (xs (nI i + 5).toNatClampNeg) σ = some (r, σ1)) (h2 : F_X12_odds (xs (nI i + 1).toNatClampNeg) (xs (nI i + 2).toNatClampNeg) (xs (nI i + 3).toNatClampNeg) (xs (nI i + 4).toNatClampNeg) (xs (nI i + 5).toNatClampNeg) σ1 = some (r, σ2)) (kk : ZL b L xs S cells slots 2124 [(0, .ref b), (1, .ref (sL S 0 0 0)), (2, .ref (sL S 3 0 0)), (3, .int (nI i))] [] σ2) : ZL b L xs S cells slots 1716 [(0, .ref b), (1, .ref (sL S 0 0 0)), (2, .ref (sL S 3 0 0)), (3, .int (nI i))] [] σ := by
  refine y_aload_n dL_law_1716 rfl 1 rfl ?_
  refine y_aload_n dL_law_1717 rfl 0 rfl ?_
  refine y_iload_n dL_law_1718 rfl 3 rfl ?_
  refine y_iconst (v := 1) dL_law_1719 (by decide) ?_
  refine y_iadd dL_law_1720 ?_
  refine y_sld (xin (k := 1) hi hL (by decide)) dL_law_1721 ?_
  refine y_aload_n dL_law_1722 rfl 0 rfl ?_
  refine y_iload_n dL_law_1723 rfl 3 rfl ?_
  refine y_iconst (v := 2) dL_law_1724 (by decide) ?_
  refine y_iadd dL_law_1725 ?_
  refine y_sld (xin (k := 2) hi hL (by decide)) dL_law_1726 ?_
  refine y_aload_n dL_law_1727 rfl 0 rfl ?_
  refine y_iload_n dL_law_1728 rfl 3 rfl ?_
  refine y_iconst (v := 3) dL_law_1729 (by decide) ?_
  refine y_iadd dL_law_1730 ?_
  refine y_sld (xin (k := 3) hi hL (by decide)) dL_law_1731 ?_
  refine y_aload_n dL_law_1732 rfl 0 rfl ?_
  refine y_iload_n dL_law_1733 rfl 3 rfl ?_
  refine y_iconst (v := 4) dL_law_1734 (by decide) ?_
  refine y_iadd dL_law_1735 ?_
  refine y_sld (xin (k := 4) hi hL (by decide)) dL_law_1736 ?_
  refine y_aload_n dL_law_1737 rfl 0 rfl ?_
  refine y_iload_n dL_law_1738 rfl 3 rfl ?_
  refine y_iconst (v := 5) dL_law_1739 (by decide) ?_
  refine y_iadd dL_law_1740 ?_
  refine y_sld (xin (k := 5) hi hL (by decide)) dL_law_1741 ?_
  refine y_callV (M' := m_X11_odds) (t := 0) (i := 0) (k := 0) (As := [.int (xs (nI i + 1).toNatClampNeg), .int (xs (nI i + 2).toNatClampNeg), .int (xs (nI i + 3).toNatClampNeg), .int (xs (nI i + 4).toNatClampNeg), .int (xs (nI i + 5).toNatClampNeg)]) (rest := []) hc0 hs0 kl_L_165 oy_X11_odds ⟨Nat.le_of_ble_eq_true rfl, Nat.le_of_ble_eq_true rfl⟩ rfl rfl rfl rfl (Nat.le_of_ble_eq_true rfl) rfl dL_law_1742 (c_X11_odds h1) (fun v τ hq => ?_)
  obtain ⟨rfl, hτ⟩ := hq
  subst τ
  change ZL _ _ _ _ _ _ _ _ [.int r] _
  refine y_aload_n dL_law_1745 rfl 2 rfl ?_
  refine y_aload_n dL_law_1746 rfl 0 rfl ?_
  refine y_iload_n dL_law_1747 rfl 3 rfl ?_
  refine y_iconst (v := 1) dL_law_1748 (by decide) ?_
  refine y_iadd dL_law_1749 ?_
  refine y_sld (xin (k := 1) hi hL (by decide)) dL_law_1750 ?_
  refine y_aload_n dL_law_1751 rfl 0 rfl ?_
  refine y_iload_n dL_law_1752 rfl 3 rfl ?_
  refine y_iconst (v := 2) dL_law_1753 (by decide) ?_
  refine y_iadd dL_law_1754 ?_
  refine y_sld (xin (k := 2) hi hL (by decide)) dL_law_1755 ?_
  refine y_aload_n dL_law_1756 rfl 0 rfl ?_
  refine y_iload_n dL_law_1757 rfl 3 rfl ?_
  refine y_iconst (v := 3) dL_law_1758 (by decide) ?_
  refine y_iadd dL_law_1759 ?_
  refine y_sld (xin (k := 3) hi hL (by decide)) dL_law_1760 ?_
  refine y_aload_n dL_law_1761 rfl 0 rfl ?_
  refine y_iload_n dL_law_1762 rfl 3 rfl ?_
  refine y_iconst (v := 4) dL_law_1763 (by decide) ?_
  refine y_iadd dL_law_1764 ?_
  refine y_sld (xin (k := 4) hi hL (by decide)) dL_law_1765 ?_
  refine y_aload_n dL_law_1766 rfl 0 rfl ?_
  refine y_iload_n dL_law_1767 rfl 3 rfl ?_
  refine y_iconst (v := 5) dL_law_1768 (by decide) ?_
  refine y_iadd dL_law_1769 ?_
  refine y_sld (xin (k := 5) hi hL (by decide)) dL_law_1770 ?_
  refine y_callV (M' := m_X12_odds) (t := 3) (i := 0) (k := 0) (As := [.int (xs (nI i + 1).toNatClampNeg), .int (xs (nI i + 2).toNatClampNeg), .int (xs (nI i + 3).toNatClampNeg), .int (xs (nI i + 4).toNatClampNeg), .int (xs (nI i + 5).toNatClampNeg)]) (rest := [.int r]) hc0 hs0 kl_L_168 oy_X12_odds ⟨Nat.le_of_ble_eq_true rfl, Nat.le_of_ble_eq_true rfl⟩ rfl rfl rfl rfl (Nat.le_of_ble_eq_true rfl) rfl dL_law_1771 (c_X12_odds h2) (fun v τ hq => ?_)
  obtain ⟨rfl, hτ⟩ := hq
  subst τ
  change ZL _ _ _ _ _ _ _ _ [.int r, .int r] _
  refine y_icmp_eq (tgt := 2124) dL_law_1774 (by decide) (fun _ => ?_) (fun q => ?_)
  · exact kk
  · exact absurd rfl q
set_option maxRecDepth 20000 in
theorem lc_36 {b L : Nat} {xs : Nat → Int32} {S : Shp} {cells slots i : Nat} {σ σ1 σ2 : Mm} {r : Int32} (hL : L ≤ 3584) (hi : i + 7 ≤ L) (hc0 : cells ≤ 600000) (hs0 : slots ≤ 7302250) (h1 : f_X11_counts (xs (nI i + 1).toNatClampNeg) (xs (nI i + 2).toNatClampNeg) (xs (nI i + 3).toNatClampNeg) (xs (nI i + 4).toNatClampNeg) (xs (nI i + 5).toNatClampNeg) σ = r) (hp1 : okP σ = true) (h2 : f_X12_counts (xs (nI i + 1).toNatClampNeg) (xs (nI i + 2).toNatClampNeg) (xs (nI i + 3).toNatClampNeg) (xs (nI i + 4).toNatClampNeg) (xs (nI i + 5).toNatClampNeg) σ = r) (hp2 : okP σ = true) (kk : ZL b L xs S cells slots 2124 [(0, .ref b), (1, .ref (sL S 0 0 0)), (2, .ref (sL S 3 0 0)), (3, .int (nI i))] [] σ) : ZL b L xs S cells slots 1779 [(0, .ref b), (1, .ref (sL S 0 0 0)), (2, .ref (sL S 3 0 0)), (3, .int (nI i))] [] σ := by
  refine y_aload_n dL_law_1779 rfl 1 rfl ?_
  refine y_aload_n dL_law_1780 rfl 0 rfl ?_
  refine y_iload_n dL_law_1781 rfl 3 rfl ?_
  refine y_iconst (v := 1) dL_law_1782 (by decide) ?_
  refine y_iadd dL_law_1783 ?_
  refine y_sld (xin (k := 1) hi hL (by decide)) dL_law_1784 ?_
  refine y_aload_n dL_law_1785 rfl 0 rfl ?_
  refine y_iload_n dL_law_1786 rfl 3 rfl ?_
  refine y_iconst (v := 2) dL_law_1787 (by decide) ?_
  refine y_iadd dL_law_1788 ?_
  refine y_sld (xin (k := 2) hi hL (by decide)) dL_law_1789 ?_
  refine y_aload_n dL_law_1790 rfl 0 rfl ?_
  refine y_iload_n dL_law_1791 rfl 3 rfl ?_
  refine y_iconst (v := 3) dL_law_1792 (by decide) ?_
  refine y_iadd dL_law_1793 ?_
  refine y_sld (xin (k := 3) hi hL (by decide)) dL_law_1794 ?_
  refine y_aload_n dL_law_1795 rfl 0 rfl ?_
  refine y_iload_n dL_law_1796 rfl 3 rfl ?_
  refine y_iconst (v := 4) dL_law_1797 (by decide) ?_
  refine y_iadd dL_law_1798 ?_
  refine y_sld (xin (k := 4) hi hL (by decide)) dL_law_1799 ?_
  refine y_aload_n dL_law_1800 rfl 0 rfl ?_
  refine y_iload_n dL_law_1801 rfl 3 rfl ?_
  refine y_iconst (v := 5) dL_law_1802 (by decide) ?_
  refine y_iadd dL_law_1803 ?_
  refine y_sld (xin (k := 5) hi hL (by decide)) dL_law_1804 ?_
  refine y_callV (M' := m_X11_counts) (t := 0) (i := 0) (k := 0) (As := [.int (xs (nI i + 1).toNatClampNeg), .int (xs (nI i + 2).toNatClampNeg), .int (xs (nI i + 3).toNatClampNeg), .int (xs (nI i + 4).toNatClampNeg), .int (xs (nI i + 5).toNatClampNeg)]) (rest := []) hc0 hs0 kl_L_169 oy_X11_counts ⟨Nat.le_of_ble_eq_true rfl, Nat.le_of_ble_eq_true rfl⟩ rfl rfl rfl rfl (Nat.le_of_ble_eq_true rfl) rfl dL_law_1805 (c_X11_counts hp1 h1) (fun v τ hq => ?_)
  obtain ⟨rfl, hτ⟩ := hq
  subst τ
  change ZL _ _ _ _ _ _ _ _ [.int r] _
  refine y_aload_n dL_law_1808 rfl 2 rfl ?_
  refine y_aload_n dL_law_1809 rfl 0 rfl ?_
  refine y_iload_n dL_law_1810 rfl 3 rfl ?_
  refine y_iconst (v := 1) dL_law_1811 (by decide) ?_
  refine y_iadd dL_law_1812 ?_
  refine y_sld (xin (k := 1) hi hL (by decide)) dL_law_1813 ?_
  refine y_aload_n dL_law_1814 rfl 0 rfl ?_
  refine y_iload_n dL_law_1815 rfl 3 rfl ?_
  refine y_iconst (v := 2) dL_law_1816 (by decide) ?_
  refine y_iadd dL_law_1817 ?_
  refine y_sld (xin (k := 2) hi hL (by decide)) dL_law_1818 ?_
  refine y_aload_n dL_law_1819 rfl 0 rfl ?_
  refine y_iload_n dL_law_1820 rfl 3 rfl ?_
  refine y_iconst (v := 3) dL_law_1821 (by decide) ?_
  refine y_iadd dL_law_1822 ?_
  refine y_sld (xin (k := 3) hi hL (by decide)) dL_law_1823 ?_
  refine y_aload_n dL_law_1824 rfl 0 rfl ?_
  refine y_iload_n dL_law_1825 rfl 3 rfl ?_
  refine y_iconst (v := 4) dL_law_1826 (by decide) ?_
  refine y_iadd dL_law_1827 ?_
  refine y_sld (xin (k := 4) hi hL (by decide)) dL_law_1828 ?_
  refine y_aload_n dL_law_1829 rfl 0 rfl ?_
  refine y_iload_n dL_law_1830 rfl 3 rfl ?_
  refine y_iconst (v := 5) dL_law_1831 (by decide) ?_
  refine y_iadd dL_law_1832 ?_
  refine y_sld (xin (k := 5) hi hL (by decide)) dL_law_1833 ?_
  refine y_callV (M' := m_X12_counts) (t := 3) (i := 0) (k := 0) (As := [.int (xs (nI i + 1).toNatClampNeg), .int (xs (nI i + 2).toNatClampNeg), .int (xs (nI i + 3).toNatClampNeg), .int (xs (nI i + 4).toNatClampNeg), .int (xs (nI i + 5).toNatClampNeg)]) (rest := [.int r]) hc0 hs0 kl_L_172 oy_X12_counts ⟨Nat.le_of_ble_eq_true rfl, Nat.le_of_ble_eq_true rfl⟩ rfl rfl rfl rfl (Nat.le_of_ble_eq_true rfl) rfl dL_law_1834 (c_X12_counts hp2 h2) (fun v τ hq => ?_)
  obtain ⟨rfl, hτ⟩ := hq
  subst τ
  change ZL _ _ _ _ _ _ _ _ [.int r, .int r] _
  refine y_icmp_eq (tgt := 2124) dL_law_1837 (by decide) (fun _ => ?_) (fun q => ?_)
  · exact kk
  · exact absurd rfl q
set_option maxRecDepth 20000 in
theorem lc_37 {b L : Nat} {xs : Nat → Int32} {S : Shp} {cells slots i : Nat} {σ σ1 σ2 : Mm} {r : Int32} (hL : L ≤ 3584) (hi : i + 7 ≤ L) (hc0 : cells ≤ 600000) (hs0 : slots ≤ 7302250) (h1 : F_X11_anything (xs (nI i + 1).toNatClampNeg) (xs (nI i + 2).toNatClampNeg) (xs (nI i + 3).toNatClampNeg) (xs (nI i + 4).toNatClampNeg) (xs (nI i + 5).toNatClampNeg) σ = some (r, σ1)) (h2 : F_X12_anything (xs (nI i + 1).toNatClampNeg) (xs (nI i + 2).toNatClampNeg) (xs (nI i + 3).toNatClampNeg) (xs (nI i + 4).toNatClampNeg) (xs (nI i + 5).toNatClampNeg) σ1 = some (r, σ2)) (kk : ZL b L xs S cells slots 2124 [(0, .ref b), (1, .ref (sL S 0 0 0)), (2, .ref (sL S 3 0 0)), (3, .int (nI i))] [] σ2) : ZL b L xs S cells slots 1842 [(0, .ref b), (1, .ref (sL S 0 0 0)), (2, .ref (sL S 3 0 0)), (3, .int (nI i))] [] σ := by
  refine y_aload_n dL_law_1842 rfl 1 rfl ?_
  refine y_aload_n dL_law_1843 rfl 0 rfl ?_
  refine y_iload_n dL_law_1844 rfl 3 rfl ?_
  refine y_iconst (v := 1) dL_law_1845 (by decide) ?_
  refine y_iadd dL_law_1846 ?_
  refine y_sld (xin (k := 1) hi hL (by decide)) dL_law_1847 ?_
  refine y_aload_n dL_law_1848 rfl 0 rfl ?_
  refine y_iload_n dL_law_1849 rfl 3 rfl ?_
  refine y_iconst (v := 2) dL_law_1850 (by decide) ?_
  refine y_iadd dL_law_1851 ?_
  refine y_sld (xin (k := 2) hi hL (by decide)) dL_law_1852 ?_
  refine y_aload_n dL_law_1853 rfl 0 rfl ?_
  refine y_iload_n dL_law_1854 rfl 3 rfl ?_
  refine y_iconst (v := 3) dL_law_1855 (by decide) ?_
  refine y_iadd dL_law_1856 ?_
  refine y_sld (xin (k := 3) hi hL (by decide)) dL_law_1857 ?_
  refine y_aload_n dL_law_1858 rfl 0 rfl ?_
  refine y_iload_n dL_law_1859 rfl 3 rfl ?_
  refine y_iconst (v := 4) dL_law_1860 (by decide) ?_
  refine y_iadd dL_law_1861 ?_
  refine y_sld (xin (k := 4) hi hL (by decide)) dL_law_1862 ?_
  refine y_aload_n dL_law_1863 rfl 0 rfl ?_
  refine y_iload_n dL_law_1864 rfl 3 rfl ?_
  refine y_iconst (v := 5) dL_law_1865 (by decide) ?_
  refine y_iadd dL_law_1866 ?_
  refine y_sld (xin (k := 5) hi hL (by decide)) dL_law_1867 ?_
  refine y_callV (M' := m_X11_anything) (t := 0) (i := 0) (k := 0) (As := [.int (xs (nI i + 1).toNatClampNeg), .int (xs (nI i + 2).toNatClampNeg), .int (xs (nI i + 3).toNatClampNeg), .int (xs (nI i + 4).toNatClampNeg), .int (xs (nI i + 5).toNatClampNeg)]) (rest := []) hc0 hs0 kl_L_173 oy_X11_anything ⟨Nat.le_of_ble_eq_true rfl, Nat.le_of_ble_eq_true rfl⟩ rfl rfl rfl rfl (Nat.le_of_ble_eq_true rfl) rfl dL_law_1868 (c_X11_anything h1) (fun v τ hq => ?_)
  obtain ⟨rfl, hτ⟩ := hq
  subst τ
  change ZL _ _ _ _ _ _ _ _ [.int r] _
  refine y_aload_n dL_law_1871 rfl 2 rfl ?_
  refine y_aload_n dL_law_1872 rfl 0 rfl ?_
  refine y_iload_n dL_law_1873 rfl 3 rfl ?_
  refine y_iconst (v := 1) dL_law_1874 (by decide) ?_
  refine y_iadd dL_law_1875 ?_
  refine y_sld (xin (k := 1) hi hL (by decide)) dL_law_1876 ?_
  refine y_aload_n dL_law_1877 rfl 0 rfl ?_
  refine y_iload_n dL_law_1878 rfl 3 rfl ?_
  refine y_iconst (v := 2) dL_law_1879 (by decide) ?_
  refine y_iadd dL_law_1880 ?_
  refine y_sld (xin (k := 2) hi hL (by decide)) dL_law_1881 ?_
  refine y_aload_n dL_law_1882 rfl 0 rfl ?_
  refine y_iload_n dL_law_1883 rfl 3 rfl ?_
  refine y_iconst (v := 3) dL_law_1884 (by decide) ?_
  refine y_iadd dL_law_1885 ?_
  refine y_sld (xin (k := 3) hi hL (by decide)) dL_law_1886 ?_
  refine y_aload_n dL_law_1887 rfl 0 rfl ?_
  refine y_iload_n dL_law_1888 rfl 3 rfl ?_
  refine y_iconst (v := 4) dL_law_1889 (by decide) ?_
  refine y_iadd dL_law_1890 ?_
  refine y_sld (xin (k := 4) hi hL (by decide)) dL_law_1891 ?_
  refine y_aload_n dL_law_1892 rfl 0 rfl ?_
  refine y_iload_n dL_law_1893 rfl 3 rfl ?_
  refine y_iconst (v := 5) dL_law_1894 (by decide) ?_
  refine y_iadd dL_law_1895 ?_
  refine y_sld (xin (k := 5) hi hL (by decide)) dL_law_1896 ?_
  refine y_callV (M' := m_X12_anything) (t := 3) (i := 0) (k := 0) (As := [.int (xs (nI i + 1).toNatClampNeg), .int (xs (nI i + 2).toNatClampNeg), .int (xs (nI i + 3).toNatClampNeg), .int (xs (nI i + 4).toNatClampNeg), .int (xs (nI i + 5).toNatClampNeg)]) (rest := [.int r]) hc0 hs0 kl_L_176 oy_X12_anything ⟨Nat.le_of_ble_eq_true rfl, Nat.le_of_ble_eq_true rfl⟩ rfl rfl rfl rfl (Nat.le_of_ble_eq_true rfl) rfl dL_law_1897 (c_X12_anything h2) (fun v τ hq => ?_)
  obtain ⟨rfl, hτ⟩ := hq
  subst τ
  change ZL _ _ _ _ _ _ _ _ [.int r, .int r] _
  refine y_icmp_eq (tgt := 2124) dL_law_1900 (by decide) (fun _ => ?_) (fun q => ?_)
  · exact kk
  · exact absurd rfl q
set_option maxRecDepth 20000 in
theorem lc_38 {b L : Nat} {xs : Nat → Int32} {S : Shp} {cells slots i : Nat} {σ σ1 σ2 : Mm} {r : Int32} (hL : L ≤ 3584) (hi : i + 7 ≤ L) (hc0 : cells ≤ 600000) (hs0 : slots ≤ 7302250) (h1 : F_X11_life (xs (nI i + 1).toNatClampNeg) (xs (nI i + 2).toNatClampNeg) (xs (nI i + 3).toNatClampNeg) (xs (nI i + 4).toNatClampNeg) σ = some (r, σ1)) (h2 : F_X12_life (xs (nI i + 1).toNatClampNeg) (xs (nI i + 2).toNatClampNeg) (xs (nI i + 3).toNatClampNeg) (xs (nI i + 4).toNatClampNeg) σ1 = some (r, σ2)) (kk : ZL b L xs S cells slots 2124 [(0, .ref b), (1, .ref (sL S 0 0 0)), (2, .ref (sL S 3 0 0)), (3, .int (nI i))] [] σ2) : ZL b L xs S cells slots 1905 [(0, .ref b), (1, .ref (sL S 0 0 0)), (2, .ref (sL S 3 0 0)), (3, .int (nI i))] [] σ := by
  refine y_aload_n dL_law_1905 rfl 1 rfl ?_
  refine y_aload_n dL_law_1906 rfl 0 rfl ?_
  refine y_iload_n dL_law_1907 rfl 3 rfl ?_
  refine y_iconst (v := 1) dL_law_1908 (by decide) ?_
  refine y_iadd dL_law_1909 ?_
  refine y_sld (xin (k := 1) hi hL (by decide)) dL_law_1910 ?_
  refine y_aload_n dL_law_1911 rfl 0 rfl ?_
  refine y_iload_n dL_law_1912 rfl 3 rfl ?_
  refine y_iconst (v := 2) dL_law_1913 (by decide) ?_
  refine y_iadd dL_law_1914 ?_
  refine y_sld (xin (k := 2) hi hL (by decide)) dL_law_1915 ?_
  refine y_aload_n dL_law_1916 rfl 0 rfl ?_
  refine y_iload_n dL_law_1917 rfl 3 rfl ?_
  refine y_iconst (v := 3) dL_law_1918 (by decide) ?_
  refine y_iadd dL_law_1919 ?_
  refine y_sld (xin (k := 3) hi hL (by decide)) dL_law_1920 ?_
  refine y_aload_n dL_law_1921 rfl 0 rfl ?_
  refine y_iload_n dL_law_1922 rfl 3 rfl ?_
  refine y_iconst (v := 4) dL_law_1923 (by decide) ?_
  refine y_iadd dL_law_1924 ?_
  refine y_sld (xin (k := 4) hi hL (by decide)) dL_law_1925 ?_
  refine y_callV (M' := m_X11_life) (t := 0) (i := 0) (k := 0) (As := [.int (xs (nI i + 1).toNatClampNeg), .int (xs (nI i + 2).toNatClampNeg), .int (xs (nI i + 3).toNatClampNeg), .int (xs (nI i + 4).toNatClampNeg)]) (rest := []) hc0 hs0 kl_L_177 oy_X11_life ⟨Nat.le_of_ble_eq_true rfl, Nat.le_of_ble_eq_true rfl⟩ rfl rfl rfl rfl (Nat.le_of_ble_eq_true rfl) rfl dL_law_1926 (c_X11_life h1) (fun v τ hq => ?_)
  obtain ⟨rfl, hτ⟩ := hq
  subst τ
  change ZL _ _ _ _ _ _ _ _ [.int r] _
  refine y_aload_n dL_law_1929 rfl 2 rfl ?_
  refine y_aload_n dL_law_1930 rfl 0 rfl ?_
  refine y_iload_n dL_law_1931 rfl 3 rfl ?_
  refine y_iconst (v := 1) dL_law_1932 (by decide) ?_
  refine y_iadd dL_law_1933 ?_
  refine y_sld (xin (k := 1) hi hL (by decide)) dL_law_1934 ?_
  refine y_aload_n dL_law_1935 rfl 0 rfl ?_
  refine y_iload_n dL_law_1936 rfl 3 rfl ?_
  refine y_iconst (v := 2) dL_law_1937 (by decide) ?_
  refine y_iadd dL_law_1938 ?_
  refine y_sld (xin (k := 2) hi hL (by decide)) dL_law_1939 ?_
  refine y_aload_n dL_law_1940 rfl 0 rfl ?_
  refine y_iload_n dL_law_1941 rfl 3 rfl ?_
  refine y_iconst (v := 3) dL_law_1942 (by decide) ?_
  refine y_iadd dL_law_1943 ?_
  refine y_sld (xin (k := 3) hi hL (by decide)) dL_law_1944 ?_
  refine y_aload_n dL_law_1945 rfl 0 rfl ?_
  refine y_iload_n dL_law_1946 rfl 3 rfl ?_
  refine y_iconst (v := 4) dL_law_1947 (by decide) ?_
  refine y_iadd dL_law_1948 ?_
  refine y_sld (xin (k := 4) hi hL (by decide)) dL_law_1949 ?_
  refine y_callV (M' := m_X12_life) (t := 3) (i := 0) (k := 0) (As := [.int (xs (nI i + 1).toNatClampNeg), .int (xs (nI i + 2).toNatClampNeg), .int (xs (nI i + 3).toNatClampNeg), .int (xs (nI i + 4).toNatClampNeg)]) (rest := [.int r]) hc0 hs0 kl_L_180 oy_X12_life ⟨Nat.le_of_ble_eq_true rfl, Nat.le_of_ble_eq_true rfl⟩ rfl rfl rfl rfl (Nat.le_of_ble_eq_true rfl) rfl dL_law_1950 (c_X12_life h2) (fun v τ hq => ?_)
  obtain ⟨rfl, hτ⟩ := hq
  subst τ
  change ZL _ _ _ _ _ _ _ _ [.int r, .int r] _
  refine y_icmp_eq (tgt := 2124) dL_law_1953 (by decide) (fun _ => ?_) (fun q => ?_)
  · exact kk
  · exact absurd rfl q
set_option maxRecDepth 20000 in
theorem lc_39 {b L : Nat} {xs : Nat → Int32} {S : Shp} {cells slots i : Nat} {σ σ1 σ2 : Mm} {r : Int64} (hL : L ≤ 3584) (hi : i + 7 ≤ L) (hc0 : cells ≤ 600000) (hs0 : slots ≤ 7302250) (h1 : F_X11_seen (xs (nI i + 1).toNatClampNeg) (xs (nI i + 2).toNatClampNeg) (xs (nI i + 3).toNatClampNeg) (xs (nI i + 4).toNatClampNeg) σ = some (r, σ1)) (h2 : F_X12_seen (xs (nI i + 1).toNatClampNeg) (xs (nI i + 2).toNatClampNeg) (xs (nI i + 3).toNatClampNeg) (xs (nI i + 4).toNatClampNeg) σ1 = some (r, σ2)) (kk : ZL b L xs S cells slots 2124 [(0, .ref b), (1, .ref (sL S 0 0 0)), (2, .ref (sL S 3 0 0)), (3, .int (nI i))] [] σ2) : ZL b L xs S cells slots 1958 [(0, .ref b), (1, .ref (sL S 0 0 0)), (2, .ref (sL S 3 0 0)), (3, .int (nI i))] [] σ := by
  refine y_aload_n dL_law_1958 rfl 1 rfl ?_
  refine y_aload_n dL_law_1959 rfl 0 rfl ?_
  refine y_iload_n dL_law_1960 rfl 3 rfl ?_
  refine y_iconst (v := 1) dL_law_1961 (by decide) ?_
  refine y_iadd dL_law_1962 ?_
  refine y_sld (xin (k := 1) hi hL (by decide)) dL_law_1963 ?_
  refine y_aload_n dL_law_1964 rfl 0 rfl ?_
  refine y_iload_n dL_law_1965 rfl 3 rfl ?_
  refine y_iconst (v := 2) dL_law_1966 (by decide) ?_
  refine y_iadd dL_law_1967 ?_
  refine y_sld (xin (k := 2) hi hL (by decide)) dL_law_1968 ?_
  refine y_aload_n dL_law_1969 rfl 0 rfl ?_
  refine y_iload_n dL_law_1970 rfl 3 rfl ?_
  refine y_iconst (v := 3) dL_law_1971 (by decide) ?_
  refine y_iadd dL_law_1972 ?_
  refine y_sld (xin (k := 3) hi hL (by decide)) dL_law_1973 ?_
  refine y_aload_n dL_law_1974 rfl 0 rfl ?_
  refine y_iload_n dL_law_1975 rfl 3 rfl ?_
  refine y_iconst (v := 4) dL_law_1976 (by decide) ?_
  refine y_iadd dL_law_1977 ?_
  refine y_sld (xin (k := 4) hi hL (by decide)) dL_law_1978 ?_
  refine y_callV (M' := m_X11_seen) (t := 0) (i := 0) (k := 0) (As := [.int (xs (nI i + 1).toNatClampNeg), .int (xs (nI i + 2).toNatClampNeg), .int (xs (nI i + 3).toNatClampNeg), .int (xs (nI i + 4).toNatClampNeg)]) (rest := []) hc0 hs0 kl_L_181 oy_X11_seen ⟨Nat.le_of_ble_eq_true rfl, Nat.le_of_ble_eq_true rfl⟩ rfl rfl rfl rfl (Nat.le_of_ble_eq_true rfl) rfl dL_law_1979 (c_X11_seen h1) (fun v τ hq => ?_)
  obtain ⟨rfl, hτ⟩ := hq
  subst τ
  change ZL _ _ _ _ _ _ _ _ [.long r] _
  refine y_aload_n dL_law_1982 rfl 2 rfl ?_
  refine y_aload_n dL_law_1983 rfl 0 rfl ?_
  refine y_iload_n dL_law_1984 rfl 3 rfl ?_
  refine y_iconst (v := 1) dL_law_1985 (by decide) ?_
  refine y_iadd dL_law_1986 ?_
  refine y_sld (xin (k := 1) hi hL (by decide)) dL_law_1987 ?_
  refine y_aload_n dL_law_1988 rfl 0 rfl ?_
  refine y_iload_n dL_law_1989 rfl 3 rfl ?_
  refine y_iconst (v := 2) dL_law_1990 (by decide) ?_
  refine y_iadd dL_law_1991 ?_
  refine y_sld (xin (k := 2) hi hL (by decide)) dL_law_1992 ?_
  refine y_aload_n dL_law_1993 rfl 0 rfl ?_
  refine y_iload_n dL_law_1994 rfl 3 rfl ?_
  refine y_iconst (v := 3) dL_law_1995 (by decide) ?_
  refine y_iadd dL_law_1996 ?_
  refine y_sld (xin (k := 3) hi hL (by decide)) dL_law_1997 ?_
  refine y_aload_n dL_law_1998 rfl 0 rfl ?_
  refine y_iload_n dL_law_1999 rfl 3 rfl ?_
  refine y_iconst (v := 4) dL_law_2000 (by decide) ?_
  refine y_iadd dL_law_2001 ?_
  refine y_sld (xin (k := 4) hi hL (by decide)) dL_law_2002 ?_
  refine y_callV (M' := m_X12_seen) (t := 3) (i := 0) (k := 0) (As := [.int (xs (nI i + 1).toNatClampNeg), .int (xs (nI i + 2).toNatClampNeg), .int (xs (nI i + 3).toNatClampNeg), .int (xs (nI i + 4).toNatClampNeg)]) (rest := [.long r]) hc0 hs0 kl_L_185 oy_X12_seen ⟨Nat.le_of_ble_eq_true rfl, Nat.le_of_ble_eq_true rfl⟩ rfl rfl rfl rfl (Nat.le_of_ble_eq_true rfl) rfl dL_law_2003 (c_X12_seen h2) (fun v τ hq => ?_)
  obtain ⟨rfl, hτ⟩ := hq
  subst τ
  change ZL _ _ _ _ _ _ _ _ [.long r, .long r] _
  refine y_lcmp dL_law_2006 ?_
  rw [lgc_refl]
  refine y_if_eq (tgt := 2124) dL_law_2007 (by decide) (fun _ => ?_) (fun q => absurd rfl q)
  exact kk
set_option maxRecDepth 20000 in
theorem lc_40 {b L : Nat} {xs : Nat → Int32} {S : Shp} {cells slots i : Nat} {σ σ1 σ2 : Mm} {r : Int32} (hL : L ≤ 3584) (hi : i + 7 ≤ L) (hc0 : cells ≤ 600000) (hs0 : slots ≤ 7302250) (h1 : F_X11_say (xs (nI i + 1).toNatClampNeg) (xs (nI i + 2).toNatClampNeg) (xs (nI i + 3).toNatClampNeg) σ = some (r, σ1)) (h2 : F_X12_say (xs (nI i + 1).toNatClampNeg) (xs (nI i + 2).toNatClampNeg) (xs (nI i + 3).toNatClampNeg) σ1 = some (r, σ2)) (kk : ZL b L xs S cells slots 2124 [(0, .ref b), (1, .ref (sL S 0 0 0)), (2, .ref (sL S 3 0 0)), (3, .int (nI i))] [] σ2) : ZL b L xs S cells slots 2012 [(0, .ref b), (1, .ref (sL S 0 0 0)), (2, .ref (sL S 3 0 0)), (3, .int (nI i))] [] σ := by
  refine y_aload_n dL_law_2012 rfl 1 rfl ?_
  refine y_aload_n dL_law_2013 rfl 0 rfl ?_
  refine y_iload_n dL_law_2014 rfl 3 rfl ?_
  refine y_iconst (v := 1) dL_law_2015 (by decide) ?_
  refine y_iadd dL_law_2016 ?_
  refine y_sld (xin (k := 1) hi hL (by decide)) dL_law_2017 ?_
  refine y_aload_n dL_law_2018 rfl 0 rfl ?_
  refine y_iload_n dL_law_2019 rfl 3 rfl ?_
  refine y_iconst (v := 2) dL_law_2020 (by decide) ?_
  refine y_iadd dL_law_2021 ?_
  refine y_sld (xin (k := 2) hi hL (by decide)) dL_law_2022 ?_
  refine y_aload_n dL_law_2023 rfl 0 rfl ?_
  refine y_iload_n dL_law_2024 rfl 3 rfl ?_
  refine y_iconst (v := 3) dL_law_2025 (by decide) ?_
  refine y_iadd dL_law_2026 ?_
  refine y_sld (xin (k := 3) hi hL (by decide)) dL_law_2027 ?_
  refine y_callV (M' := m_X11_say) (t := 0) (i := 0) (k := 0) (As := [.int (xs (nI i + 1).toNatClampNeg), .int (xs (nI i + 2).toNatClampNeg), .int (xs (nI i + 3).toNatClampNeg)]) (rest := []) hc0 hs0 kl_L_186 oy_X11_say ⟨Nat.le_of_ble_eq_true rfl, Nat.le_of_ble_eq_true rfl⟩ rfl rfl rfl rfl (Nat.le_of_ble_eq_true rfl) rfl dL_law_2028 (c_X11_say h1) (fun v τ hq => ?_)
  obtain ⟨rfl, hτ⟩ := hq
  subst τ
  change ZL _ _ _ _ _ _ _ _ [.int r] _
  refine y_aload_n dL_law_2031 rfl 2 rfl ?_
  refine y_aload_n dL_law_2032 rfl 0 rfl ?_
  refine y_iload_n dL_law_2033 rfl 3 rfl ?_
  refine y_iconst (v := 1) dL_law_2034 (by decide) ?_
  refine y_iadd dL_law_2035 ?_
  refine y_sld (xin (k := 1) hi hL (by decide)) dL_law_2036 ?_
  refine y_aload_n dL_law_2037 rfl 0 rfl ?_
  refine y_iload_n dL_law_2038 rfl 3 rfl ?_
  refine y_iconst (v := 2) dL_law_2039 (by decide) ?_
  refine y_iadd dL_law_2040 ?_
  refine y_sld (xin (k := 2) hi hL (by decide)) dL_law_2041 ?_
  refine y_aload_n dL_law_2042 rfl 0 rfl ?_
  refine y_iload_n dL_law_2043 rfl 3 rfl ?_
  refine y_iconst (v := 3) dL_law_2044 (by decide) ?_
  refine y_iadd dL_law_2045 ?_
  refine y_sld (xin (k := 3) hi hL (by decide)) dL_law_2046 ?_
  refine y_callV (M' := m_X12_say) (t := 3) (i := 0) (k := 0) (As := [.int (xs (nI i + 1).toNatClampNeg), .int (xs (nI i + 2).toNatClampNeg), .int (xs (nI i + 3).toNatClampNeg)]) (rest := [.int r]) hc0 hs0 kl_L_189 oy_X12_say ⟨Nat.le_of_ble_eq_true rfl, Nat.le_of_ble_eq_true rfl⟩ rfl rfl rfl rfl (Nat.le_of_ble_eq_true rfl) rfl dL_law_2047 (c_X12_say h2) (fun v τ hq => ?_)
  obtain ⟨rfl, hτ⟩ := hq
  subst τ
  change ZL _ _ _ _ _ _ _ _ [.int r, .int r] _
  refine y_icmp_eq (tgt := 2124) dL_law_2050 (by decide) (fun _ => ?_) (fun q => ?_)
  · exact kk
  · exact absurd rfl q
set_option maxRecDepth 20000 in
theorem lc_42 {b L : Nat} {xs : Nat → Int32} {S : Shp} {cells slots i : Nat} {σ σ1 σ2 : Mm} {r : Int32} (hL : L ≤ 3584) (hi : i + 7 ≤ L) (hc0 : cells ≤ 600000) (hs0 : slots ≤ 7302250) (h1 : F_X11_again (sH S) (xs (nI i + 1).toNatClampNeg) σ = some (r, σ1)) (h2 : F_X12_again (xs (nI i + 1).toNatClampNeg) σ1 = some (r, σ2)) (kk : ZL b L xs S cells slots 2124 [(0, .ref b), (1, .ref (sL S 0 0 0)), (2, .ref (sL S 3 0 0)), (3, .int (nI i))] [] σ2) : ZL b L xs S cells slots 2078 [(0, .ref b), (1, .ref (sL S 0 0 0)), (2, .ref (sL S 3 0 0)), (3, .int (nI i))] [] σ := by
  refine y_aload_n dL_law_2078 rfl 1 rfl ?_
  refine y_aload_n dL_law_2079 rfl 0 rfl ?_
  refine y_iload_n dL_law_2080 rfl 3 rfl ?_
  refine y_iconst (v := 1) dL_law_2081 (by decide) ?_
  refine y_iadd dL_law_2082 ?_
  refine y_sld (xin (k := 1) hi hL (by decide)) dL_law_2083 ?_
  refine y_callV (M' := m_X11_again) (t := 0) (i := 0) (k := 0) (As := [.int (xs (nI i + 1).toNatClampNeg)]) (rest := []) hc0 hs0 kl_L_195 oy_X11_again ⟨Nat.le_of_ble_eq_true rfl, Nat.le_of_ble_eq_true rfl⟩ rfl rfl rfl rfl (Nat.le_of_ble_eq_true rfl) rfl dL_law_2084 (c_X11_again h1) (fun v τ hq => ?_)
  obtain ⟨rfl, hτ⟩ := hq
  subst τ
  change ZL _ _ _ _ _ _ _ _ [.int r] _
  refine y_aload_n dL_law_2087 rfl 2 rfl ?_
  refine y_aload_n dL_law_2088 rfl 0 rfl ?_
  refine y_iload_n dL_law_2089 rfl 3 rfl ?_
  refine y_iconst (v := 1) dL_law_2090 (by decide) ?_
  refine y_iadd dL_law_2091 ?_
  refine y_sld (xin (k := 1) hi hL (by decide)) dL_law_2092 ?_
  refine y_callV (M' := m_X12_again) (t := 3) (i := 0) (k := 0) (As := [.int (xs (nI i + 1).toNatClampNeg)]) (rest := [.int r]) hc0 hs0 kl_L_198 oy_X12_again ⟨Nat.le_of_ble_eq_true rfl, Nat.le_of_ble_eq_true rfl⟩ rfl rfl rfl rfl (Nat.le_of_ble_eq_true rfl) rfl dL_law_2093 (c_X12_again h2) (fun v τ hq => ?_)
  obtain ⟨rfl, hτ⟩ := hq
  subst τ
  change ZL _ _ _ _ _ _ _ _ [.int r, .int r] _
  refine y_icmp_eq (tgt := 2124) dL_law_2096 (by decide) (fun _ => ?_) (fun q => ?_)
  · exact kk
  · exact absurd rfl q
set_option maxRecDepth 20000 in
theorem lc_43 {b L : Nat} {xs : Nat → Int32} {S : Shp} {cells slots i : Nat} {σ σ1 σ2 : Mm} {r : Int32} (hL : L ≤ 3584) (hi : i + 7 ≤ L) (hc0 : cells ≤ 600000) (hs0 : slots ≤ 7302250) (h1 : F_X11_count (sH S) (xs (nI i + 1).toNatClampNeg) σ = some (r, σ1)) (h2 : F_X12_count (xs (nI i + 1).toNatClampNeg) σ1 = some (r, σ2)) (kk : ZL b L xs S cells slots 2124 [(0, .ref b), (1, .ref (sL S 0 0 0)), (2, .ref (sL S 3 0 0)), (3, .int (nI i))] [] σ2) : ZL b L xs S cells slots 2101 [(0, .ref b), (1, .ref (sL S 0 0 0)), (2, .ref (sL S 3 0 0)), (3, .int (nI i))] [] σ := by
  refine y_aload_n dL_law_2101 rfl 1 rfl ?_
  refine y_aload_n dL_law_2102 rfl 0 rfl ?_
  refine y_iload_n dL_law_2103 rfl 3 rfl ?_
  refine y_iconst (v := 1) dL_law_2104 (by decide) ?_
  refine y_iadd dL_law_2105 ?_
  refine y_sld (xin (k := 1) hi hL (by decide)) dL_law_2106 ?_
  refine y_callV (M' := m_X11_count) (t := 0) (i := 0) (k := 0) (As := [.int (xs (nI i + 1).toNatClampNeg)]) (rest := []) hc0 hs0 kl_L_199 oy_X11_count ⟨Nat.le_of_ble_eq_true rfl, Nat.le_of_ble_eq_true rfl⟩ rfl rfl rfl rfl (Nat.le_of_ble_eq_true rfl) rfl dL_law_2107 (c_X11_count h1) (fun v τ hq => ?_)
  obtain ⟨rfl, hτ⟩ := hq
  subst τ
  change ZL _ _ _ _ _ _ _ _ [.int r] _
  refine y_aload_n dL_law_2110 rfl 2 rfl ?_
  refine y_aload_n dL_law_2111 rfl 0 rfl ?_
  refine y_iload_n dL_law_2112 rfl 3 rfl ?_
  refine y_iconst (v := 1) dL_law_2113 (by decide) ?_
  refine y_iadd dL_law_2114 ?_
  refine y_sld (xin (k := 1) hi hL (by decide)) dL_law_2115 ?_
  refine y_callV (M' := m_X12_count) (t := 3) (i := 0) (k := 0) (As := [.int (xs (nI i + 1).toNatClampNeg)]) (rest := [.int r]) hc0 hs0 kl_L_202 oy_X12_count ⟨Nat.le_of_ble_eq_true rfl, Nat.le_of_ble_eq_true rfl⟩ rfl rfl rfl rfl (Nat.le_of_ble_eq_true rfl) rfl dL_law_2116 (c_X12_count h2) (fun v τ hq => ?_)
  obtain ⟨rfl, hτ⟩ := hq
  subst τ
  change ZL _ _ _ _ _ _ _ _ [.int r, .int r] _
  refine y_icmp_eq (tgt := 2124) dL_law_2119 (by decide) (fun _ => ?_) (fun q => ?_)
  · exact kk
  · exact absurd rfl q
