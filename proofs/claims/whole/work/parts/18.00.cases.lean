set_option maxRecDepth 20000 in
set_option maxHeartbeats 2000000 in
theorem w_feed {z : Zx} {B : Bx} {b L j F : Nat} {xs : Nat → Int32} {Q : State → Prop} {μ ν μ' ν' : Mm} {r : Int32} {σ : Nat} {v : Bool} {C : Nat × Nat} (hg : Og z B code 4 "RopeDanceLaw" (some .boolean) 13 TL) (hX : va_X b L xs (zs z) (zs z).heap) (hb : b < (zs z).heap.size) (hj : j + 6 ≤ L) (hL : L ≤ 3072) (hs : σ < 5) (hv : v = vσ σ ∨ σ = 0) (hC : C.1 ≤ 600000 ∧ C.2 ≤ 7302250) (f1 : fX11_feed F (xs (j + 1)) (xs (j + 2)) (xs (j + 3)) (xs (j + 4)) (xs (j + 5)) μ = some (r, μ')) (f2 : fX12_feed F (xs (j + 1)) (xs (j + 2)) (xs (j + 3)) (xs (j + 4)) (xs (j + 5)) ν = some (r, ν')) (hz : nz σ μ') (kk : Gq z (kC B σ v ν') 4 Q (C) 1457 μ' (lvL B v b (Int32.ofNat j)) []) : Gq z (kC B σ v ν) 4 Q (C) 204 μ (lvL B v b (Int32.ofNat j)) [] := by
  have h0 := hg.2.2.2.2.2.2.2.2.2.1
  refine r_aloadn (okC hg hs hv) 2 rfl rfl dL_204 ?_
  refine l_arg (okC hg hs hv) hX (nFC h0 hb) rfl rfl hj hL 1 (by decide) (y := 1) (by decide) (by decide) dL_205 dL_206 dL_207 dL_208 dL_209 ?_
  refine l_arg (okC hg hs hv) hX (nFC h0 hb) rfl rfl hj hL 2 (by decide) (y := 2) (by decide) (by decide) dL_210 dL_211 dL_212 dL_213 dL_214 ?_
  refine l_arg (okC hg hs hv) hX (nFC h0 hb) rfl rfl hj hL 3 (by decide) (y := 3) (by decide) (by decide) dL_215 dL_216 dL_217 dL_218 dL_219 ?_
  refine l_arg (okC hg hs hv) hX (nFC h0 hb) rfl rfl hj hL 4 (by decide) (y := 4) (by decide) (by decide) dL_220 dL_221 dL_222 dL_223 dL_224 ?_
  refine l_arg (okC hg hs hv) hX (nFC h0 hb) rfl rfl hj hL 5 (by decide) (y := 5) (by decide) (by decide) dL_225 dL_226 dL_227 dL_228 dL_229 ?_
  refine r_callV (okC hg hs hv) (As := [.int (xs (j + 1)), .int (xs (j + 2)), .int (xs (j + 3)), .int (xs (j + 4)), .int (xs (j + 5))]) (rest := []) (st1 := [.int r]) (c := 11) (i := 0) (TT := T11) (N := 12) MK_X11_feed rfl wi_X11_feed we_X11_feed wm_L_13 hC (cX11_feed (kC_ok hs hv) (e11 _ hs) f1) (e11 _ hs) (Nat.le_of_ble_eq_true rfl) rfl rfl (Nat.le_of_ble_eq_true rfl) rfl dL_230 (fun _ => ?_)
  refine l_CM ?_
  refine r_aloadn (okM hg hs hv) 1 rfl rfl dL_233 ?_
  refine l_arg (okM hg hs hv) hX (nFM h0 hb) rfl rfl hj hL 1 (by decide) (y := 1) (by decide) (by decide) dL_234 dL_235 dL_236 dL_237 dL_238 ?_
  refine l_arg (okM hg hs hv) hX (nFM h0 hb) rfl rfl hj hL 2 (by decide) (y := 2) (by decide) (by decide) dL_239 dL_240 dL_241 dL_242 dL_243 ?_
  refine l_arg (okM hg hs hv) hX (nFM h0 hb) rfl rfl hj hL 3 (by decide) (y := 3) (by decide) (by decide) dL_244 dL_245 dL_246 dL_247 dL_248 ?_
  refine l_arg (okM hg hs hv) hX (nFM h0 hb) rfl rfl hj hL 4 (by decide) (y := 4) (by decide) (by decide) dL_249 dL_250 dL_251 dL_252 dL_253 ?_
  refine l_arg (okM hg hs hv) hX (nFM h0 hb) rfl rfl hj hL 5 (by decide) (y := 5) (by decide) (by decide) dL_254 dL_255 dL_256 dL_257 dL_258 ?_
  refine r_callV (okM hg hs hv) (As := [.int (xs (j + 1)), .int (xs (j + 2)), .int (xs (j + 3)), .int (xs (j + 4)), .int (xs (j + 5))]) (rest := [.int r]) (st1 := [.int r, .int r]) (c := 12) (i := 0) (TT := T12) (N := 75) MK_X12_feed rfl wi_X12_feed we_X12_feed wm_L_17 hC (cX12_feed (kM_ok hs hv) e12 f2) e12 (Nat.le_of_ble_eq_true rfl) rfl rfl (Nat.le_of_ble_eq_true rfl) rfl dL_259 (fun _ => ?_)
  refine l_MC hs hz ?_
  exact r_iceq (okC hg hs hv) (tgt := 1457) (by decide) dL_262 (fun _ => kk) (fun q => absurd rfl q)
set_option maxRecDepth 20000 in
set_option maxHeartbeats 2000000 in
theorem w_back {z : Zx} {B : Bx} {b L j F : Nat} {xs : Nat → Int32} {Q : State → Prop} {μ ν μ' ν' : Mm} {r : Int32} {σ : Nat} {v : Bool} {C : Nat × Nat} (hg : Og z B code 4 "RopeDanceLaw" (some .boolean) 13 TL) (hX : va_X b L xs (zs z) (zs z).heap) (hb : b < (zs z).heap.size) (hj : j + 6 ≤ L) (hL : L ≤ 3072) (hs : σ < 5) (hv : v = vσ σ ∨ σ = 0) (hC : C.1 ≤ 600000 ∧ C.2 ≤ 7302250) (f1 : fX11_back F (xs (j + 1)) μ = some (r, μ')) (f2 : fX12_back F (xs (j + 1)) ν = some (r, ν')) (hz : nz σ μ') (kk : Gq z (kC B σ v ν') 4 Q (C) 1457 μ' (lvL B v b (Int32.ofNat j)) []) : Gq z (kC B σ v ν) 4 Q (C) 267 μ (lvL B v b (Int32.ofNat j)) [] := by
  have h0 := hg.2.2.2.2.2.2.2.2.2.1
  refine r_aloadn (okC hg hs hv) 2 rfl rfl dL_267 ?_
  refine l_arg (okC hg hs hv) hX (nFC h0 hb) rfl rfl hj hL 1 (by decide) (y := 1) (by decide) (by decide) dL_268 dL_269 dL_270 dL_271 dL_272 ?_
  refine r_callV (okC hg hs hv) (As := [.int (xs (j + 1))]) (rest := []) (st1 := [.int r]) (c := 11) (i := 0) (TT := T11) (N := 12) MK_X11_back rfl wi_X11_back we_X11_back wm_L_18 hC (cX11_back (kC_ok hs hv) (e11 _ hs) f1) (e11 _ hs) (Nat.le_of_ble_eq_true rfl) rfl rfl (Nat.le_of_ble_eq_true rfl) rfl dL_273 (fun _ => ?_)
  refine l_CM ?_
  refine r_aloadn (okM hg hs hv) 1 rfl rfl dL_276 ?_
  refine l_arg (okM hg hs hv) hX (nFM h0 hb) rfl rfl hj hL 1 (by decide) (y := 1) (by decide) (by decide) dL_277 dL_278 dL_279 dL_280 dL_281 ?_
  refine r_callV (okM hg hs hv) (As := [.int (xs (j + 1))]) (rest := [.int r]) (st1 := [.int r, .int r]) (c := 12) (i := 0) (TT := T12) (N := 75) MK_X12_back rfl wi_X12_back we_X12_back wm_L_22 hC (cX12_back (kM_ok hs hv) e12 f2) e12 (Nat.le_of_ble_eq_true rfl) rfl rfl (Nat.le_of_ble_eq_true rfl) rfl dL_282 (fun _ => ?_)
  refine l_MC hs hz ?_
  exact r_iceq (okC hg hs hv) (tgt := 1457) (by decide) dL_285 (fun _ => kk) (fun q => absurd rfl q)
set_option maxRecDepth 20000 in
set_option maxHeartbeats 2000000 in
theorem w_read {z : Zx} {B : Bx} {b L j F : Nat} {xs : Nat → Int32} {Q : State → Prop} {μ ν μ' ν' : Mm} {r : Int32} {σ : Nat} {v : Bool} {C : Nat × Nat} (hg : Og z B code 4 "RopeDanceLaw" (some .boolean) 13 TL) (hX : va_X b L xs (zs z) (zs z).heap) (hb : b < (zs z).heap.size) (hj : j + 6 ≤ L) (hL : L ≤ 3072) (hs : σ < 5) (hv : v = vσ σ ∨ σ = 0) (hC : C.1 ≤ 600000 ∧ C.2 ≤ 7302250) (f1 : fX11_read F μ = some (r, μ')) (f2 : fX12_read F ν = some (r, ν')) (hz : nz σ μ') (kk : Gq z (kC B σ v ν') 4 Q (C) 1457 μ' (lvL B v b (Int32.ofNat j)) []) : Gq z (kC B σ v ν) 4 Q (C) 290 μ (lvL B v b (Int32.ofNat j)) [] := by
  have h0 := hg.2.2.2.2.2.2.2.2.2.1
  refine r_aloadn (okC hg hs hv) 2 rfl rfl dL_290 ?_
  refine r_callV (okC hg hs hv) (As := []) (rest := []) (st1 := [.int r]) (c := 11) (i := 0) (TT := T11) (N := 12) MK_X11_read rfl wi_X11_read we_X11_read wm_L_23 hC (cX11_read (kC_ok hs hv) (e11 _ hs) f1) (e11 _ hs) (Nat.le_of_ble_eq_true rfl) rfl rfl (Nat.le_of_ble_eq_true rfl) rfl dL_291 (fun _ => ?_)
  refine l_CM ?_
  refine r_aloadn (okM hg hs hv) 1 rfl rfl dL_294 ?_
  refine r_callV (okM hg hs hv) (As := []) (rest := [.int r]) (st1 := [.int r, .int r]) (c := 12) (i := 0) (TT := T12) (N := 75) MK_X12_read rfl wi_X12_read we_X12_read wm_L_27 hC (cX12_read (kM_ok hs hv) e12 f2) e12 (Nat.le_of_ble_eq_true rfl) rfl rfl (Nat.le_of_ble_eq_true rfl) rfl dL_295 (fun _ => ?_)
  refine l_MC hs hz ?_
  exact r_iceq (okC hg hs hv) (tgt := 1457) (by decide) dL_298 (fun _ => kk) (fun q => absurd rfl q)
set_option maxRecDepth 20000 in
set_option maxHeartbeats 2000000 in
theorem w_place {z : Zx} {B : Bx} {b L j F : Nat} {xs : Nat → Int32} {Q : State → Prop} {μ ν μ' ν' : Mm} {r : Int32} {σ : Nat} {v : Bool} {C : Nat × Nat} (hg : Og z B code 4 "RopeDanceLaw" (some .boolean) 13 TL) (hX : va_X b L xs (zs z) (zs z).heap) (hb : b < (zs z).heap.size) (hj : j + 6 ≤ L) (hL : L ≤ 3072) (hs : σ < 5) (hv : v = vσ σ ∨ σ = 0) (hC : C.1 ≤ 600000 ∧ C.2 ≤ 7302250) (f1 : fX11_place F μ = some (r, μ')) (f2 : fX12_place F ν = some (r, ν')) (hz : nz σ μ') (kk : Gq z (kC B σ v ν') 4 Q (C) 1457 μ' (lvL B v b (Int32.ofNat j)) []) : Gq z (kC B σ v ν) 4 Q (C) 303 μ (lvL B v b (Int32.ofNat j)) [] := by
  have h0 := hg.2.2.2.2.2.2.2.2.2.1
  refine r_aloadn (okC hg hs hv) 2 rfl rfl dL_303 ?_
  refine r_callV (okC hg hs hv) (As := []) (rest := []) (st1 := [.int r]) (c := 11) (i := 0) (TT := T11) (N := 12) MK_X11_place rfl wi_X11_place we_X11_place wm_L_28 hC (cX11_place (kC_ok hs hv) (e11 _ hs) f1) (e11 _ hs) (Nat.le_of_ble_eq_true rfl) rfl rfl (Nat.le_of_ble_eq_true rfl) rfl dL_304 (fun _ => ?_)
  refine l_CM ?_
  refine r_aloadn (okM hg hs hv) 1 rfl rfl dL_307 ?_
  refine r_callV (okM hg hs hv) (As := []) (rest := [.int r]) (st1 := [.int r, .int r]) (c := 12) (i := 0) (TT := T12) (N := 75) MK_X12_place rfl wi_X12_place we_X12_place wm_L_31 hC (cX12_place (kM_ok hs hv) e12 f2) e12 (Nat.le_of_ble_eq_true rfl) rfl rfl (Nat.le_of_ble_eq_true rfl) rfl dL_308 (fun _ => ?_)
  refine l_MC hs hz ?_
  exact r_iceq (okC hg hs hv) (tgt := 1457) (by decide) dL_311 (fun _ => kk) (fun q => absurd rfl q)
set_option maxRecDepth 20000 in
set_option maxHeartbeats 2000000 in
theorem w_square {z : Zx} {B : Bx} {b L j F : Nat} {xs : Nat → Int32} {Q : State → Prop} {μ ν μ' ν' : Mm} {r : Int32} {σ : Nat} {v : Bool} {C : Nat × Nat} (hg : Og z B code 4 "RopeDanceLaw" (some .boolean) 13 TL) (hX : va_X b L xs (zs z) (zs z).heap) (hb : b < (zs z).heap.size) (hj : j + 6 ≤ L) (hL : L ≤ 3072) (hs : σ < 5) (hv : v = vσ σ ∨ σ = 0) (hC : C.1 ≤ 600000 ∧ C.2 ≤ 7302250) (f1 : fX11_square F (xs (j + 1)) (xs (j + 2)) μ = some (r, μ')) (f2 : fX12_square F (xs (j + 1)) (xs (j + 2)) ν = some (r, ν')) (hz : nz σ μ') (kk : Gq z (kC B σ v ν') 4 Q (C) 1457 μ' (lvL B v b (Int32.ofNat j)) []) : Gq z (kC B σ v ν) 4 Q (C) 316 μ (lvL B v b (Int32.ofNat j)) [] := by
  have h0 := hg.2.2.2.2.2.2.2.2.2.1
  refine r_aloadn (okC hg hs hv) 2 rfl rfl dL_316 ?_
  refine l_arg (okC hg hs hv) hX (nFC h0 hb) rfl rfl hj hL 1 (by decide) (y := 1) (by decide) (by decide) dL_317 dL_318 dL_319 dL_320 dL_321 ?_
  refine l_arg (okC hg hs hv) hX (nFC h0 hb) rfl rfl hj hL 2 (by decide) (y := 2) (by decide) (by decide) dL_322 dL_323 dL_324 dL_325 dL_326 ?_
  refine r_callV (okC hg hs hv) (As := [.int (xs (j + 1)), .int (xs (j + 2))]) (rest := []) (st1 := [.int r]) (c := 11) (i := 0) (TT := T11) (N := 12) MK_X11_square rfl wi_X11_square we_X11_square wm_L_32 hC (cX11_square (kC_ok hs hv) (e11 _ hs) f1) (e11 _ hs) (Nat.le_of_ble_eq_true rfl) rfl rfl (Nat.le_of_ble_eq_true rfl) rfl dL_327 (fun _ => ?_)
  refine l_CM ?_
  refine r_aloadn (okM hg hs hv) 1 rfl rfl dL_330 ?_
  refine l_arg (okM hg hs hv) hX (nFM h0 hb) rfl rfl hj hL 1 (by decide) (y := 1) (by decide) (by decide) dL_331 dL_332 dL_333 dL_334 dL_335 ?_
  refine l_arg (okM hg hs hv) hX (nFM h0 hb) rfl rfl hj hL 2 (by decide) (y := 2) (by decide) (by decide) dL_336 dL_337 dL_338 dL_339 dL_340 ?_
  refine r_callV (okM hg hs hv) (As := [.int (xs (j + 1)), .int (xs (j + 2))]) (rest := [.int r]) (st1 := [.int r, .int r]) (c := 12) (i := 0) (TT := T12) (N := 75) MK_X12_square rfl wi_X12_square we_X12_square wm_L_36 hC (cX12_square (kM_ok hs hv) e12 f2) e12 (Nat.le_of_ble_eq_true rfl) rfl rfl (Nat.le_of_ble_eq_true rfl) rfl dL_341 (fun _ => ?_)
  refine l_MC hs hz ?_
  exact r_iceq (okC hg hs hv) (tgt := 1457) (by decide) dL_344 (fun _ => kk) (fun q => absurd rfl q)
set_option maxRecDepth 20000 in
set_option maxHeartbeats 2000000 in
theorem w_figure {z : Zx} {B : Bx} {b L j F : Nat} {xs : Nat → Int32} {Q : State → Prop} {μ ν μ' ν' : Mm} {r : Int32} {σ : Nat} {v : Bool} {C : Nat × Nat} (hg : Og z B code 4 "RopeDanceLaw" (some .boolean) 13 TL) (hX : va_X b L xs (zs z) (zs z).heap) (hb : b < (zs z).heap.size) (hj : j + 6 ≤ L) (hL : L ≤ 3072) (hs : σ < 5) (hv : v = vσ σ ∨ σ = 0) (hC : C.1 ≤ 600000 ∧ C.2 ≤ 7302250) (f1 : fX11_figure F (xs (j + 1)) (xs (j + 2)) μ = some (r, μ')) (f2 : fX12_figure F (xs (j + 1)) (xs (j + 2)) ν = some (r, ν')) (hz : nz σ μ') (kk : Gq z (kC B σ v ν') 4 Q (C) 1457 μ' (lvL B v b (Int32.ofNat j)) []) : Gq z (kC B σ v ν) 4 Q (C) 349 μ (lvL B v b (Int32.ofNat j)) [] := by
  have h0 := hg.2.2.2.2.2.2.2.2.2.1
  refine r_aloadn (okC hg hs hv) 2 rfl rfl dL_349 ?_
  refine l_arg (okC hg hs hv) hX (nFC h0 hb) rfl rfl hj hL 1 (by decide) (y := 1) (by decide) (by decide) dL_350 dL_351 dL_352 dL_353 dL_354 ?_
  refine l_arg (okC hg hs hv) hX (nFC h0 hb) rfl rfl hj hL 2 (by decide) (y := 2) (by decide) (by decide) dL_355 dL_356 dL_357 dL_358 dL_359 ?_
  refine r_callV (okC hg hs hv) (As := [.int (xs (j + 1)), .int (xs (j + 2))]) (rest := []) (st1 := [.int r]) (c := 11) (i := 0) (TT := T11) (N := 12) MK_X11_figure rfl wi_X11_figure we_X11_figure wm_L_37 hC (cX11_figure (kC_ok hs hv) (e11 _ hs) f1) (e11 _ hs) (Nat.le_of_ble_eq_true rfl) rfl rfl (Nat.le_of_ble_eq_true rfl) rfl dL_360 (fun _ => ?_)
  refine l_CM ?_
  refine r_aloadn (okM hg hs hv) 1 rfl rfl dL_363 ?_
  refine l_arg (okM hg hs hv) hX (nFM h0 hb) rfl rfl hj hL 1 (by decide) (y := 1) (by decide) (by decide) dL_364 dL_365 dL_366 dL_367 dL_368 ?_
  refine l_arg (okM hg hs hv) hX (nFM h0 hb) rfl rfl hj hL 2 (by decide) (y := 2) (by decide) (by decide) dL_369 dL_370 dL_371 dL_372 dL_373 ?_
  refine r_callV (okM hg hs hv) (As := [.int (xs (j + 1)), .int (xs (j + 2))]) (rest := [.int r]) (st1 := [.int r, .int r]) (c := 12) (i := 0) (TT := T12) (N := 75) MK_X12_figure rfl wi_X12_figure we_X12_figure wm_L_40 hC (cX12_figure (kM_ok hs hv) e12 f2) e12 (Nat.le_of_ble_eq_true rfl) rfl rfl (Nat.le_of_ble_eq_true rfl) rfl dL_374 (fun _ => ?_)
  refine l_MC hs hz ?_
  exact r_iceq (okC hg hs hv) (tgt := 1457) (by decide) dL_377 (fun _ => kk) (fun q => absurd rfl q)
set_option maxRecDepth 20000 in
set_option maxHeartbeats 2000000 in
theorem w_tires {z : Zx} {B : Bx} {b L j F : Nat} {xs : Nat → Int32} {Q : State → Prop} {μ ν μ' ν' : Mm} {r : Int32} {σ : Nat} {v : Bool} {C : Nat × Nat} (hg : Og z B code 4 "RopeDanceLaw" (some .boolean) 13 TL) (hX : va_X b L xs (zs z) (zs z).heap) (hb : b < (zs z).heap.size) (hj : j + 6 ≤ L) (hL : L ≤ 3072) (hs : σ < 5) (hv : v = vσ σ ∨ σ = 0) (hC : C.1 ≤ 600000 ∧ C.2 ≤ 7302250) (f1 : fX11_tires F (xs (j + 1)) (xs (j + 2)) μ = some (r, μ')) (f2 : fX12_tires F (xs (j + 1)) (xs (j + 2)) ν = some (r, ν')) (hz : nz σ μ') (kk : Gq z (kC B σ v ν') 4 Q (C) 1457 μ' (lvL B v b (Int32.ofNat j)) []) : Gq z (kC B σ v ν) 4 Q (C) 382 μ (lvL B v b (Int32.ofNat j)) [] := by
  have h0 := hg.2.2.2.2.2.2.2.2.2.1
  refine r_aloadn (okC hg hs hv) 2 rfl rfl dL_382 ?_
  refine l_arg (okC hg hs hv) hX (nFC h0 hb) rfl rfl hj hL 1 (by decide) (y := 1) (by decide) (by decide) dL_383 dL_384 dL_385 dL_386 dL_387 ?_
  refine l_arg (okC hg hs hv) hX (nFC h0 hb) rfl rfl hj hL 2 (by decide) (y := 2) (by decide) (by decide) dL_388 dL_389 dL_390 dL_391 dL_392 ?_
  refine r_callV (okC hg hs hv) (As := [.int (xs (j + 1)), .int (xs (j + 2))]) (rest := []) (st1 := [.int r]) (c := 11) (i := 0) (TT := T11) (N := 12) MK_X11_tires rfl wi_X11_tires we_X11_tires wm_L_41 hC (cX11_tires (kC_ok hs hv) (e11 _ hs) f1) (e11 _ hs) (Nat.le_of_ble_eq_true rfl) rfl rfl (Nat.le_of_ble_eq_true rfl) rfl dL_393 (fun _ => ?_)
  refine l_CM ?_
  refine r_aloadn (okM hg hs hv) 1 rfl rfl dL_396 ?_
  refine l_arg (okM hg hs hv) hX (nFM h0 hb) rfl rfl hj hL 1 (by decide) (y := 1) (by decide) (by decide) dL_397 dL_398 dL_399 dL_400 dL_401 ?_
  refine l_arg (okM hg hs hv) hX (nFM h0 hb) rfl rfl hj hL 2 (by decide) (y := 2) (by decide) (by decide) dL_402 dL_403 dL_404 dL_405 dL_406 ?_
  refine r_callV (okM hg hs hv) (As := [.int (xs (j + 1)), .int (xs (j + 2))]) (rest := [.int r]) (st1 := [.int r, .int r]) (c := 12) (i := 0) (TT := T12) (N := 75) MK_X12_tires rfl wi_X12_tires we_X12_tires wm_L_44 hC (cX12_tires (kM_ok hs hv) e12 f2) e12 (Nat.le_of_ble_eq_true rfl) rfl rfl (Nat.le_of_ble_eq_true rfl) rfl dL_407 (fun _ => ?_)
  refine l_MC hs hz ?_
  exact r_iceq (okC hg hs hv) (tgt := 1457) (by decide) dL_410 (fun _ => kk) (fun q => absurd rfl q)
set_option maxRecDepth 20000 in
set_option maxHeartbeats 2000000 in
theorem w_after {z : Zx} {B : Bx} {b L j F : Nat} {xs : Nat → Int32} {Q : State → Prop} {μ ν μ' ν' : Mm} {r : Int32} {σ : Nat} {v : Bool} {C : Nat × Nat} (hg : Og z B code 4 "RopeDanceLaw" (some .boolean) 13 TL) (hX : va_X b L xs (zs z) (zs z).heap) (hb : b < (zs z).heap.size) (hj : j + 6 ≤ L) (hL : L ≤ 3072) (hs : σ < 5) (hv : v = vσ σ ∨ σ = 0) (hC : C.1 ≤ 600000 ∧ C.2 ≤ 7302250) (f1 : fX11_after F (xs (j + 1)) (xs (j + 2)) (xs (j + 3)) μ = some (r, μ')) (f2 : fX12_after F (xs (j + 1)) (xs (j + 2)) (xs (j + 3)) ν = some (r, ν')) (hz : nz σ μ') (kk : Gq z (kC B σ v ν') 4 Q (C) 1457 μ' (lvL B v b (Int32.ofNat j)) []) : Gq z (kC B σ v ν) 4 Q (C) 415 μ (lvL B v b (Int32.ofNat j)) [] := by
  have h0 := hg.2.2.2.2.2.2.2.2.2.1
  refine r_aloadn (okC hg hs hv) 2 rfl rfl dL_415 ?_
  refine l_arg (okC hg hs hv) hX (nFC h0 hb) rfl rfl hj hL 1 (by decide) (y := 1) (by decide) (by decide) dL_416 dL_417 dL_418 dL_419 dL_420 ?_
  refine l_arg (okC hg hs hv) hX (nFC h0 hb) rfl rfl hj hL 2 (by decide) (y := 2) (by decide) (by decide) dL_421 dL_422 dL_423 dL_424 dL_425 ?_
  refine l_arg (okC hg hs hv) hX (nFC h0 hb) rfl rfl hj hL 3 (by decide) (y := 3) (by decide) (by decide) dL_426 dL_427 dL_428 dL_429 dL_430 ?_
  refine r_callV (okC hg hs hv) (As := [.int (xs (j + 1)), .int (xs (j + 2)), .int (xs (j + 3))]) (rest := []) (st1 := [.int r]) (c := 11) (i := 0) (TT := T11) (N := 12) MK_X11_after rfl wi_X11_after we_X11_after wm_L_45 hC (cX11_after (kC_ok hs hv) (e11 _ hs) f1) (e11 _ hs) (Nat.le_of_ble_eq_true rfl) rfl rfl (Nat.le_of_ble_eq_true rfl) rfl dL_431 (fun _ => ?_)
  refine l_CM ?_
  refine r_aloadn (okM hg hs hv) 1 rfl rfl dL_434 ?_
  refine l_arg (okM hg hs hv) hX (nFM h0 hb) rfl rfl hj hL 1 (by decide) (y := 1) (by decide) (by decide) dL_435 dL_436 dL_437 dL_438 dL_439 ?_
  refine l_arg (okM hg hs hv) hX (nFM h0 hb) rfl rfl hj hL 2 (by decide) (y := 2) (by decide) (by decide) dL_440 dL_441 dL_442 dL_443 dL_444 ?_
  refine l_arg (okM hg hs hv) hX (nFM h0 hb) rfl rfl hj hL 3 (by decide) (y := 3) (by decide) (by decide) dL_445 dL_446 dL_447 dL_448 dL_449 ?_
  refine r_callV (okM hg hs hv) (As := [.int (xs (j + 1)), .int (xs (j + 2)), .int (xs (j + 3))]) (rest := [.int r]) (st1 := [.int r, .int r]) (c := 12) (i := 0) (TT := T12) (N := 75) MK_X12_after rfl wi_X12_after we_X12_after wm_L_49 hC (cX12_after (kM_ok hs hv) e12 f2) e12 (Nat.le_of_ble_eq_true rfl) rfl rfl (Nat.le_of_ble_eq_true rfl) rfl dL_450 (fun _ => ?_)
  refine l_MC hs hz ?_
  exact r_iceq (okC hg hs hv) (tgt := 1457) (by decide) dL_453 (fun _ => kk) (fun q => absurd rfl q)
