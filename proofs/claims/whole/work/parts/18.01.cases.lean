set_option maxRecDepth 20000 in
set_option maxHeartbeats 2000000 in
theorem w_call {z : Zx} {B : Bx} {b L j F : Nat} {xs : Nat → Int32} {Q : State → Prop} {μ ν μ' ν' : Mm} {r : Int32} {σ : Nat} {v : Bool} {C : Nat × Nat} (hg : Og z B code 4 "RopeDanceLaw" (some .boolean) 13 TL) (hX : va_X b L xs (zs z) (zs z).heap) (hb : b < (zs z).heap.size) (hj : j + 6 ≤ L) (hL : L ≤ 3072) (hs : σ < 5) (hv : v = vσ σ ∨ σ = 0) (hC : C.1 ≤ 600000 ∧ C.2 ≤ 7302250) (f1 : fX11_call F (xs (j + 1)) (xs (j + 2)) μ = some (r, μ')) (f2 : fX12_call F (xs (j + 1)) (xs (j + 2)) ν = some (r, ν')) (hz : nz σ μ') (kk : Gq z (kC B σ v ν') 4 Q (C) 1457 μ' (lvL B v b (Int32.ofNat j)) []) : Gq z (kC B σ v ν) 4 Q (C) 458 μ (lvL B v b (Int32.ofNat j)) [] := by
  have h0 := hg.2.2.2.2.2.2.2.2.2.1
  refine r_aloadn (okC hg hs hv) 2 rfl rfl dL_458 ?_
  refine l_arg (okC hg hs hv) hX (nFC h0 hb) rfl rfl hj hL 1 (by decide) (y := 1) (by decide) (by decide) dL_459 dL_460 dL_461 dL_462 dL_463 ?_
  refine l_arg (okC hg hs hv) hX (nFC h0 hb) rfl rfl hj hL 2 (by decide) (y := 2) (by decide) (by decide) dL_464 dL_465 dL_466 dL_467 dL_468 ?_
  refine r_callV (okC hg hs hv) (As := [.int (xs (j + 1)), .int (xs (j + 2))]) (rest := []) (st1 := [.int r]) (c := 11) (i := 0) (TT := T11) (N := 12) MK_X11_call rfl wi_X11_call we_X11_call wm_L_50 hC (cX11_call (kC_ok hs hv) (e11 _ hs) f1) (e11 _ hs) (Nat.le_of_ble_eq_true rfl) rfl rfl (Nat.le_of_ble_eq_true rfl) rfl dL_469 (fun _ => ?_)
  refine l_CM ?_
  refine r_aloadn (okM hg hs hv) 1 rfl rfl dL_472 ?_
  refine l_arg (okM hg hs hv) hX (nFM h0 hb) rfl rfl hj hL 1 (by decide) (y := 1) (by decide) (by decide) dL_473 dL_474 dL_475 dL_476 dL_477 ?_
  refine l_arg (okM hg hs hv) hX (nFM h0 hb) rfl rfl hj hL 2 (by decide) (y := 2) (by decide) (by decide) dL_478 dL_479 dL_480 dL_481 dL_482 ?_
  refine r_callV (okM hg hs hv) (As := [.int (xs (j + 1)), .int (xs (j + 2))]) (rest := [.int r]) (st1 := [.int r, .int r]) (c := 12) (i := 0) (TT := T12) (N := 75) MK_X12_call rfl wi_X12_call we_X12_call wm_L_53 hC (cX12_call (kM_ok hs hv) e12 f2) e12 (Nat.le_of_ble_eq_true rfl) rfl rfl (Nat.le_of_ble_eq_true rfl) rfl dL_483 (fun _ => ?_)
  refine l_MC hs hz ?_
  exact r_iceq (okC hg hs hv) (tgt := 1457) (by decide) dL_486 (fun _ => kk) (fun q => absurd rfl q)
set_option maxRecDepth 20000 in
set_option maxHeartbeats 2000000 in
theorem w_move {z : Zx} {B : Bx} {b L j F : Nat} {xs : Nat → Int32} {Q : State → Prop} {μ ν μ' ν' : Mm} {r : Int32} {σ : Nat} {v : Bool} {C : Nat × Nat} (hg : Og z B code 4 "RopeDanceLaw" (some .boolean) 13 TL) (hX : va_X b L xs (zs z) (zs z).heap) (hb : b < (zs z).heap.size) (hj : j + 6 ≤ L) (hL : L ≤ 3072) (hs : σ < 5) (hv : v = vσ σ ∨ σ = 0) (hC : C.1 ≤ 600000 ∧ C.2 ≤ 7302250) (f1 : fX11_move F (xs (j + 1)) (xs (j + 2)) (xs (j + 3)) μ = some (r, μ')) (f2 : fX12_move F (xs (j + 1)) (xs (j + 2)) (xs (j + 3)) ν = some (r, ν')) (hz : nz σ μ') (kk : Gq z (kC B σ v ν') 4 Q (C) 1457 μ' (lvL B v b (Int32.ofNat j)) []) : Gq z (kC B σ v ν) 4 Q (C) 491 μ (lvL B v b (Int32.ofNat j)) [] := by
  have h0 := hg.2.2.2.2.2.2.2.2.2.1
  refine r_aloadn (okC hg hs hv) 2 rfl rfl dL_491 ?_
  refine l_arg (okC hg hs hv) hX (nFC h0 hb) rfl rfl hj hL 1 (by decide) (y := 1) (by decide) (by decide) dL_492 dL_493 dL_494 dL_495 dL_496 ?_
  refine l_arg (okC hg hs hv) hX (nFC h0 hb) rfl rfl hj hL 2 (by decide) (y := 2) (by decide) (by decide) dL_497 dL_498 dL_499 dL_500 dL_501 ?_
  refine l_arg (okC hg hs hv) hX (nFC h0 hb) rfl rfl hj hL 3 (by decide) (y := 3) (by decide) (by decide) dL_502 dL_503 dL_504 dL_505 dL_506 ?_
  refine r_callV (okC hg hs hv) (As := [.int (xs (j + 1)), .int (xs (j + 2)), .int (xs (j + 3))]) (rest := []) (st1 := [.int r]) (c := 11) (i := 0) (TT := T11) (N := 12) MK_X11_move rfl wi_X11_move we_X11_move wm_L_54 hC (cX11_move (kC_ok hs hv) (e11 _ hs) f1) (e11 _ hs) (Nat.le_of_ble_eq_true rfl) rfl rfl (Nat.le_of_ble_eq_true rfl) rfl dL_507 (fun _ => ?_)
  refine l_CM ?_
  refine r_aloadn (okM hg hs hv) 1 rfl rfl dL_510 ?_
  refine l_arg (okM hg hs hv) hX (nFM h0 hb) rfl rfl hj hL 1 (by decide) (y := 1) (by decide) (by decide) dL_511 dL_512 dL_513 dL_514 dL_515 ?_
  refine l_arg (okM hg hs hv) hX (nFM h0 hb) rfl rfl hj hL 2 (by decide) (y := 2) (by decide) (by decide) dL_516 dL_517 dL_518 dL_519 dL_520 ?_
  refine l_arg (okM hg hs hv) hX (nFM h0 hb) rfl rfl hj hL 3 (by decide) (y := 3) (by decide) (by decide) dL_521 dL_522 dL_523 dL_524 dL_525 ?_
  refine r_callV (okM hg hs hv) (As := [.int (xs (j + 1)), .int (xs (j + 2)), .int (xs (j + 3))]) (rest := [.int r]) (st1 := [.int r, .int r]) (c := 12) (i := 0) (TT := T12) (N := 75) MK_X12_move rfl wi_X12_move we_X12_move wm_L_58 hC (cX12_move (kM_ok hs hv) e12 f2) e12 (Nat.le_of_ble_eq_true rfl) rfl rfl (Nat.le_of_ble_eq_true rfl) rfl dL_526 (fun _ => ?_)
  refine l_MC hs hz ?_
  exact r_iceq (okC hg hs hv) (tgt := 1457) (by decide) dL_529 (fun _ => kk) (fun q => absurd rfl q)
set_option maxRecDepth 20000 in
set_option maxHeartbeats 2000000 in
theorem w_let {z : Zx} {B : Bx} {b L j F : Nat} {xs : Nat → Int32} {Q : State → Prop} {μ ν μ' ν' : Mm} {r : Int32} {σ : Nat} {v : Bool} {C : Nat × Nat} (hg : Og z B code 4 "RopeDanceLaw" (some .boolean) 13 TL) (hX : va_X b L xs (zs z) (zs z).heap) (hb : b < (zs z).heap.size) (hj : j + 6 ≤ L) (hL : L ≤ 3072) (hs : σ < 5) (hv : v = vσ σ ∨ σ = 0) (hC : C.1 ≤ 600000 ∧ C.2 ≤ 7302250) (f1 : fX11_let F (xs (j + 1)) μ = some (r, μ')) (f2 : fX12_let F (xs (j + 1)) ν = some (r, ν')) (hz : nz σ μ') (kk : Gq z (kC B σ v ν') 4 Q (C) 1457 μ' (lvL B v b (Int32.ofNat j)) []) : Gq z (kC B σ v ν) 4 Q (C) 534 μ (lvL B v b (Int32.ofNat j)) [] := by
  have h0 := hg.2.2.2.2.2.2.2.2.2.1
  refine r_aloadn (okC hg hs hv) 2 rfl rfl dL_534 ?_
  refine l_arg (okC hg hs hv) hX (nFC h0 hb) rfl rfl hj hL 1 (by decide) (y := 1) (by decide) (by decide) dL_535 dL_536 dL_537 dL_538 dL_539 ?_
  refine r_callV (okC hg hs hv) (As := [.int (xs (j + 1))]) (rest := []) (st1 := [.int r]) (c := 11) (i := 0) (TT := T11) (N := 12) MK_X11_let rfl wi_X11_let we_X11_let wm_L_59 hC (cX11_let (kC_ok hs hv) (e11 _ hs) f1) (e11 _ hs) (Nat.le_of_ble_eq_true rfl) rfl rfl (Nat.le_of_ble_eq_true rfl) rfl dL_540 (fun _ => ?_)
  refine l_CM ?_
  refine r_aloadn (okM hg hs hv) 1 rfl rfl dL_543 ?_
  refine l_arg (okM hg hs hv) hX (nFM h0 hb) rfl rfl hj hL 1 (by decide) (y := 1) (by decide) (by decide) dL_544 dL_545 dL_546 dL_547 dL_548 ?_
  refine r_callV (okM hg hs hv) (As := [.int (xs (j + 1))]) (rest := [.int r]) (st1 := [.int r, .int r]) (c := 12) (i := 0) (TT := T12) (N := 75) MK_X12_let rfl wi_X12_let we_X12_let wm_L_63 hC (cX12_let (kM_ok hs hv) e12 f2) e12 (Nat.le_of_ble_eq_true rfl) rfl rfl (Nat.le_of_ble_eq_true rfl) rfl dL_549 (fun _ => ?_)
  refine l_MC hs hz ?_
  exact r_iceq (okC hg hs hv) (tgt := 1457) (by decide) dL_552 (fun _ => kk) (fun q => absurd rfl q)
set_option maxRecDepth 20000 in
set_option maxHeartbeats 2000000 in
theorem w_minutes {z : Zx} {B : Bx} {b L j F : Nat} {xs : Nat → Int32} {Q : State → Prop} {μ ν μ' ν' : Mm} {r : Int32} {σ : Nat} {v : Bool} {C : Nat × Nat} (hg : Og z B code 4 "RopeDanceLaw" (some .boolean) 13 TL) (hX : va_X b L xs (zs z) (zs z).heap) (hb : b < (zs z).heap.size) (hj : j + 6 ≤ L) (hL : L ≤ 3072) (hs : σ < 5) (hv : v = vσ σ ∨ σ = 0) (hC : C.1 ≤ 600000 ∧ C.2 ≤ 7302250) (f1 : fX11_minutes F (xs (j + 1)) μ = some (r, μ')) (f2 : fX12_minutes F (xs (j + 1)) ν = some (r, ν')) (hz : nz σ μ') (kk : Gq z (kC B σ v ν') 4 Q (C) 1457 μ' (lvL B v b (Int32.ofNat j)) []) : Gq z (kC B σ v ν) 4 Q (C) 557 μ (lvL B v b (Int32.ofNat j)) [] := by
  have h0 := hg.2.2.2.2.2.2.2.2.2.1
  refine r_aloadn (okC hg hs hv) 2 rfl rfl dL_557 ?_
  refine l_arg (okC hg hs hv) hX (nFC h0 hb) rfl rfl hj hL 1 (by decide) (y := 1) (by decide) (by decide) dL_558 dL_559 dL_560 dL_561 dL_562 ?_
  refine r_callV (okC hg hs hv) (As := [.int (xs (j + 1))]) (rest := []) (st1 := [.int r]) (c := 11) (i := 0) (TT := T11) (N := 12) MK_X11_minutes rfl wi_X11_minutes we_X11_minutes wm_L_64 hC (cX11_minutes (kC_ok hs hv) (e11 _ hs) f1) (e11 _ hs) (Nat.le_of_ble_eq_true rfl) rfl rfl (Nat.le_of_ble_eq_true rfl) rfl dL_563 (fun _ => ?_)
  refine l_CM ?_
  refine r_aloadn (okM hg hs hv) 1 rfl rfl dL_566 ?_
  refine l_arg (okM hg hs hv) hX (nFM h0 hb) rfl rfl hj hL 1 (by decide) (y := 1) (by decide) (by decide) dL_567 dL_568 dL_569 dL_570 dL_571 ?_
  refine r_callV (okM hg hs hv) (As := [.int (xs (j + 1))]) (rest := [.int r]) (st1 := [.int r, .int r]) (c := 12) (i := 0) (TT := T12) (N := 75) MK_X12_minutes rfl wi_X12_minutes we_X12_minutes wm_L_67 hC (cX12_minutes (kM_ok hs hv) e12 f2) e12 (Nat.le_of_ble_eq_true rfl) rfl rfl (Nat.le_of_ble_eq_true rfl) rfl dL_572 (fun _ => ?_)
  refine l_MC hs hz ?_
  exact r_iceq (okC hg hs hv) (tgt := 1457) (by decide) dL_575 (fun _ => kk) (fun q => absurd rfl q)
set_option maxRecDepth 20000 in
set_option maxHeartbeats 2000000 in
theorem w_undo {z : Zx} {B : Bx} {b L j F : Nat} {xs : Nat → Int32} {Q : State → Prop} {μ ν μ' ν' : Mm} {r : Int32} {σ : Nat} {v : Bool} {C : Nat × Nat} (hg : Og z B code 4 "RopeDanceLaw" (some .boolean) 13 TL) (hX : va_X b L xs (zs z) (zs z).heap) (hb : b < (zs z).heap.size) (hj : j + 6 ≤ L) (hL : L ≤ 3072) (hs : σ < 5) (hv : v = vσ σ ∨ σ = 0) (hC : C.1 ≤ 600000 ∧ C.2 ≤ 7302250) (f1 : fX11_undo F μ = some (r, μ')) (f2 : fX12_undo F ν = some (r, ν')) (hz : nz σ μ') (kk : Gq z (kC B σ v ν') 4 Q (C) 1457 μ' (lvL B v b (Int32.ofNat j)) []) : Gq z (kC B σ v ν) 4 Q (C) 580 μ (lvL B v b (Int32.ofNat j)) [] := by
  have h0 := hg.2.2.2.2.2.2.2.2.2.1
  refine r_aloadn (okC hg hs hv) 2 rfl rfl dL_580 ?_
  refine r_callV (okC hg hs hv) (As := []) (rest := []) (st1 := [.int r]) (c := 11) (i := 0) (TT := T11) (N := 12) MK_X11_undo rfl wi_X11_undo we_X11_undo wm_L_68 hC (cX11_undo (kC_ok hs hv) (e11 _ hs) f1) (e11 _ hs) (Nat.le_of_ble_eq_true rfl) rfl rfl (Nat.le_of_ble_eq_true rfl) rfl dL_581 (fun _ => ?_)
  refine l_CM ?_
  refine r_aloadn (okM hg hs hv) 1 rfl rfl dL_584 ?_
  refine r_callV (okM hg hs hv) (As := []) (rest := [.int r]) (st1 := [.int r, .int r]) (c := 12) (i := 0) (TT := T12) (N := 75) MK_X12_undo rfl wi_X12_undo we_X12_undo wm_L_72 hC (cX12_undo (kM_ok hs hv) e12 f2) e12 (Nat.le_of_ble_eq_true rfl) rfl rfl (Nat.le_of_ble_eq_true rfl) rfl dL_585 (fun _ => ?_)
  refine l_MC hs hz ?_
  exact r_iceq (okC hg hs hv) (tgt := 1457) (by decide) dL_588 (fun _ => kk) (fun q => absurd rfl q)
set_option maxRecDepth 20000 in
set_option maxHeartbeats 2000000 in
theorem w_least {z : Zx} {B : Bx} {b L j F : Nat} {xs : Nat → Int32} {Q : State → Prop} {μ ν μ' ν' : Mm} {r : Int32} {σ : Nat} {v : Bool} {C : Nat × Nat} (hg : Og z B code 4 "RopeDanceLaw" (some .boolean) 13 TL) (hX : va_X b L xs (zs z) (zs z).heap) (hb : b < (zs z).heap.size) (hj : j + 6 ≤ L) (hL : L ≤ 3072) (hs : σ < 5) (hv : v = vσ σ ∨ σ = 0) (hC : C.1 ≤ 600000 ∧ C.2 ≤ 7302250) (he : (10, 0) ∈ Lc σ) (f1 : fX11_least F (xs (j + 1)) μ = some (r, μ')) (f2 : fX12_least F (xs (j + 1)) ν = some (r, ν')) (hz : nz σ μ') (kk : Gq z (kC B σ v ν') 4 Q (C) 1457 μ' (lvL B v b (Int32.ofNat j)) []) : Gq z (kC B σ v ν) 4 Q (C) 593 μ (lvL B v b (Int32.ofNat j)) [] := by
  have h0 := hg.2.2.2.2.2.2.2.2.2.1
  refine r_aloadn (okC hg hs hv) 2 rfl rfl dL_593 ?_
  refine l_arg (okC hg hs hv) hX (nFC h0 hb) rfl rfl hj hL 1 (by decide) (y := 1) (by decide) (by decide) dL_594 dL_595 dL_596 dL_597 dL_598 ?_
  refine r_callV (okC hg hs hv) (As := [.int (xs (j + 1))]) (rest := []) (st1 := [.int r]) (c := 11) (i := 0) (TT := T11) (N := 12) MK_X11_least rfl wi_X11_least we_X11_least wm_L_73 hC (cX11_least (kC_ok hs hv) (e11 _ hs) he f1) (e11 _ hs) (Nat.le_of_ble_eq_true rfl) rfl rfl (Nat.le_of_ble_eq_true rfl) rfl dL_599 (fun _ => ?_)
  refine l_CM ?_
  refine r_aloadn (okM hg hs hv) 1 rfl rfl dL_602 ?_
  refine l_arg (okM hg hs hv) hX (nFM h0 hb) rfl rfl hj hL 1 (by decide) (y := 1) (by decide) (by decide) dL_603 dL_604 dL_605 dL_606 dL_607 ?_
  refine r_callV (okM hg hs hv) (As := [.int (xs (j + 1))]) (rest := [.int r]) (st1 := [.int r, .int r]) (c := 12) (i := 0) (TT := T12) (N := 75) MK_X12_least rfl wi_X12_least we_X12_least wm_L_76 hC (cX12_least (kM_ok hs hv) e12 f2) e12 (Nat.le_of_ble_eq_true rfl) rfl rfl (Nat.le_of_ble_eq_true rfl) rfl dL_608 (fun _ => ?_)
  refine l_MC hs hz ?_
  exact r_iceq (okC hg hs hv) (tgt := 1457) (by decide) dL_611 (fun _ => kk) (fun q => absurd rfl q)
set_option maxRecDepth 20000 in
set_option maxHeartbeats 2000000 in
theorem wn_least {z : Zx} {B : Bx} {b L j F : Nat} {xs : Nat → Int32} {Q : State → Prop} {μ ν μ' ν' : Mm} {r : Int32} {σ : Nat} {v : Bool} {C : Nat × Nat} (hg : Og z B code 4 "RopeDanceLaw" (some .boolean) 13 TL) (hX : va_X b L xs (zs z) (zs z).heap) (hb : b < (zs z).heap.size) (hj : j + 6 ≤ L) (hL : L ≤ 3072) (hs : σ < 5) (hv : v = vσ σ ∨ σ = 0) (hC : C.1 ≤ 600000 ∧ C.2 ≤ 7302250) (f1 : fX11_least_n F (xs (j + 1)) μ = some (r, μ')) (f2 : fX12_least F (xs (j + 1)) ν = some (r, ν')) (hz : nz σ μ') (kk : Gq z (kC B σ v ν') 4 Q (C) 1457 μ' (lvL B v b (Int32.ofNat j)) []) : Gq z (kC B σ v ν) 4 Q (C) 593 μ (lvL B v b (Int32.ofNat j)) [] := by
  have h0 := hg.2.2.2.2.2.2.2.2.2.1
  refine r_aloadn (okC hg hs hv) 2 rfl rfl dL_593 ?_
  refine l_arg (okC hg hs hv) hX (nFC h0 hb) rfl rfl hj hL 1 (by decide) (y := 1) (by decide) (by decide) dL_594 dL_595 dL_596 dL_597 dL_598 ?_
  refine r_callV (okC hg hs hv) (As := [.int (xs (j + 1))]) (rest := []) (st1 := [.int r]) (c := 11) (i := 0) (TT := T11) (N := 12) MK_X11_least rfl wi_X11_least we_X11_least wm_L_73 hC (nX11_least (kC_ok hs hv) (e11 _ hs) f1) (e11 _ hs) (Nat.le_of_ble_eq_true rfl) rfl rfl (Nat.le_of_ble_eq_true rfl) rfl dL_599 (fun _ => ?_)
  refine l_CM ?_
  refine r_aloadn (okM hg hs hv) 1 rfl rfl dL_602 ?_
  refine l_arg (okM hg hs hv) hX (nFM h0 hb) rfl rfl hj hL 1 (by decide) (y := 1) (by decide) (by decide) dL_603 dL_604 dL_605 dL_606 dL_607 ?_
  refine r_callV (okM hg hs hv) (As := [.int (xs (j + 1))]) (rest := [.int r]) (st1 := [.int r, .int r]) (c := 12) (i := 0) (TT := T12) (N := 75) MK_X12_least rfl wi_X12_least we_X12_least wm_L_76 hC (cX12_least (kM_ok hs hv) e12 f2) e12 (Nat.le_of_ble_eq_true rfl) rfl rfl (Nat.le_of_ble_eq_true rfl) rfl dL_608 (fun _ => ?_)
  refine l_MC hs hz ?_
  exact r_iceq (okC hg hs hv) (tgt := 1457) (by decide) dL_611 (fun _ => kk) (fun q => absurd rfl q)
set_option maxRecDepth 20000 in
set_option maxHeartbeats 2000000 in
theorem wa0_least {z : Zx} {B : Bx} {b L j F : Nat} {xs : Nat → Int32} {Q : State → Prop} {μ ν μ' ν' : Mm} {r : Int32} (hg : Og z B code 4 "RopeDanceLaw" (some .boolean) 13 TL) (hX : va_X b L xs (zs z) (zs z).heap) (hb : b < (zs z).heap.size) (hj : j + 6 ≤ L) (hL : L ≤ 3072) (f1 : fX11_least_a F (xs (j + 1)) μ = some (r, μ')) (f2 : fX12_least F (xs (j + 1)) ν = some (r, ν')) (hz : nz 1 μ') (kk : Gq z (kC B 1 false ν') 4 Q (Cs 1) 1457 μ' (lvL B false b (Int32.ofNat j)) []) : Gq z (kC B 0 false ν) 4 Q (Cs 0) 593 μ (lvL B false b (Int32.ofNat j)) [] := by
  have h0 := hg.2.2.2.2.2.2.2.2.2.1
  refine r_aloadn (okC hg (by decide : 0 < 5) (Or.inr rfl)) 2 rfl rfl dL_593 ?_
  refine l_arg (okC hg (by decide : 0 < 5) (Or.inr rfl)) hX (nFC h0 hb) rfl rfl hj hL 1 (by decide) (y := 1) (by decide) (by decide) dL_594 dL_595 dL_596 dL_597 dL_598 ?_
  refine r_callVa (k := kB B (ad false (b0 B)) (roC B (ad false (b0 B)) Lm ν)) (L := Lc 0) (N := nU) (L' := lX10 (Lc 0)) (T1 := (3, 9902)) (okC hg (by decide : 0 < 5) (Or.inr rfl)) (oc_of hg) (As := [.int (xs (j + 1))]) (rest := []) (st1 := [.int r]) (c := 11) (i := 0) (TT := T11) (N2 := 12) MK_X11_least rfl wi_X11_least we_X11_least wm_L_73 ⟨Nat.le_of_ble_eq_true rfl, Nat.le_of_ble_eq_true rfl⟩ (aX11_least (kC_ok (by decide : 0 < 5) (Or.inr rfl)) (show kok (kC B 1 false ν) from kC_ok (by decide : 1 < 5) (Or.inl rfl)) (e11 _ (by decide : 0 < 5)) f1) (by rw [← h0]; exact AL_sub AL_NN 208 3 rfl) (e11 _ (by decide : 0 < 5)) (Nat.le_of_ble_eq_true rfl) rfl rfl (Nat.le_of_ble_eq_true rfl) rfl dL_599 (fun _ => ?_)
  refine g_C (C' := Cs 1) rfl ?_
  show Gq z (kC B 1 false ν) 4 Q (Cs 1) 602 μ' (lvL B false b (Int32.ofNat j)) [.int r]
  refine l_CM ?_
  refine r_aloadn (okM hg (by decide : 1 < 5) (Or.inl rfl)) 1 rfl rfl dL_602 ?_
  refine l_arg (okM hg (by decide : 1 < 5) (Or.inl rfl)) hX (nFM h0 hb) rfl rfl hj hL 1 (by decide) (y := 1) (by decide) (by decide) dL_603 dL_604 dL_605 dL_606 dL_607 ?_
  refine r_callV (okM hg (by decide : 1 < 5) (Or.inl rfl)) (As := [.int (xs (j + 1))]) (rest := [.int r]) (st1 := [.int r, .int r]) (c := 12) (i := 0) (TT := T12) (N := 75) MK_X12_least rfl wi_X12_least we_X12_least wm_L_76 (Cs_le _ (by decide : 1 < 5)) (cX12_least (kM_ok (by decide : 1 < 5) (Or.inl rfl)) e12 f2) e12 (Nat.le_of_ble_eq_true rfl) rfl rfl (Nat.le_of_ble_eq_true rfl) rfl dL_608 (fun _ => ?_)
  refine l_MC (by decide : 1 < 5) hz ?_
  exact r_iceq (okC hg (by decide : 1 < 5) (Or.inl rfl)) (tgt := 1457) (by decide) dL_611 (fun _ => kk) (fun q => absurd rfl q)
set_option maxRecDepth 20000 in
set_option maxHeartbeats 2000000 in
theorem wa2_least {z : Zx} {B : Bx} {b L j F : Nat} {xs : Nat → Int32} {Q : State → Prop} {μ ν μ' ν' : Mm} {r : Int32} (hg : Og z B code 4 "RopeDanceLaw" (some .boolean) 13 TL) (hX : va_X b L xs (zs z) (zs z).heap) (hb : b < (zs z).heap.size) (hj : j + 6 ≤ L) (hL : L ≤ 3072) (f1 : fX11_least_a F (xs (j + 1)) μ = some (r, μ')) (f2 : fX12_least F (xs (j + 1)) ν = some (r, ν')) (hz : nz 4 μ') (kk : Gq z (kC B 4 true ν') 4 Q (Cs 4) 1457 μ' (lvL B true b (Int32.ofNat j)) []) : Gq z (kC B 2 true ν) 4 Q (Cs 2) 593 μ (lvL B true b (Int32.ofNat j)) [] := by
  have h0 := hg.2.2.2.2.2.2.2.2.2.1
  refine r_aloadn (okC hg (by decide : 2 < 5) (Or.inl rfl)) 2 rfl rfl dL_593 ?_
  refine l_arg (okC hg (by decide : 2 < 5) (Or.inl rfl)) hX (nFC h0 hb) rfl rfl hj hL 1 (by decide) (y := 1) (by decide) (by decide) dL_594 dL_595 dL_596 dL_597 dL_598 ?_
  refine r_callVa (k := kB B (ad true (b0 B)) (roC B (ad true (b0 B)) Lm ν)) (L := Lc 2) (N := nU) (L' := lX10 (Lc 2)) (T1 := (3, 9902)) (okC hg (by decide : 2 < 5) (Or.inl rfl)) (oc_of hg) (As := [.int (xs (j + 1))]) (rest := []) (st1 := [.int r]) (c := 11) (i := 0) (TT := T11) (N2 := 12) MK_X11_least rfl wi_X11_least we_X11_least wm_L_73 ⟨Nat.le_of_ble_eq_true rfl, Nat.le_of_ble_eq_true rfl⟩ (aX11_least (kC_ok (by decide : 2 < 5) (Or.inl rfl)) (show kok (kC B 4 true ν) from kC_ok (by decide : 4 < 5) (Or.inl rfl)) (e11 _ (by decide : 2 < 5)) f1) (by rw [← h0]; exact AL_sub AL_NN 212 3 rfl) (e11 _ (by decide : 2 < 5)) (Nat.le_of_ble_eq_true rfl) rfl rfl (Nat.le_of_ble_eq_true rfl) rfl dL_599 (fun _ => ?_)
  refine g_C (C' := Cs 4) rfl ?_
  show Gq z (kC B 4 true ν) 4 Q (Cs 4) 602 μ' (lvL B true b (Int32.ofNat j)) [.int r]
  refine l_CM ?_
  refine r_aloadn (okM hg (by decide : 4 < 5) (Or.inl rfl)) 1 rfl rfl dL_602 ?_
  refine l_arg (okM hg (by decide : 4 < 5) (Or.inl rfl)) hX (nFM h0 hb) rfl rfl hj hL 1 (by decide) (y := 1) (by decide) (by decide) dL_603 dL_604 dL_605 dL_606 dL_607 ?_
  refine r_callV (okM hg (by decide : 4 < 5) (Or.inl rfl)) (As := [.int (xs (j + 1))]) (rest := [.int r]) (st1 := [.int r, .int r]) (c := 12) (i := 0) (TT := T12) (N := 75) MK_X12_least rfl wi_X12_least we_X12_least wm_L_76 (Cs_le _ (by decide : 4 < 5)) (cX12_least (kM_ok (by decide : 4 < 5) (Or.inl rfl)) e12 f2) e12 (Nat.le_of_ble_eq_true rfl) rfl rfl (Nat.le_of_ble_eq_true rfl) rfl dL_608 (fun _ => ?_)
  refine l_MC (by decide : 4 < 5) hz ?_
  exact r_iceq (okC hg (by decide : 4 < 5) (Or.inl rfl)) (tgt := 1457) (by decide) dL_611 (fun _ => kk) (fun q => absurd rfl q)
set_option maxRecDepth 20000 in
set_option maxHeartbeats 2000000 in
theorem w_ways {z : Zx} {B : Bx} {b L j F : Nat} {xs : Nat → Int32} {Q : State → Prop} {μ ν μ' ν' : Mm} {r : Int32} {σ : Nat} {v : Bool} {C : Nat × Nat} (hg : Og z B code 4 "RopeDanceLaw" (some .boolean) 13 TL) (hX : va_X b L xs (zs z) (zs z).heap) (hb : b < (zs z).heap.size) (hj : j + 6 ≤ L) (hL : L ≤ 3072) (hs : σ < 5) (hv : v = vσ σ ∨ σ = 0) (hC : C.1 ≤ 600000 ∧ C.2 ≤ 7302250) (he : (10, 0) ∈ Lc σ) (f1 : fX11_ways F (xs (j + 1)) μ = some (r, μ')) (f2 : fX12_ways F (xs (j + 1)) ν = some (r, ν')) (hz : nz σ μ') (kk : Gq z (kC B σ v ν') 4 Q (C) 1457 μ' (lvL B v b (Int32.ofNat j)) []) : Gq z (kC B σ v ν) 4 Q (C) 616 μ (lvL B v b (Int32.ofNat j)) [] := by
  have h0 := hg.2.2.2.2.2.2.2.2.2.1
  refine r_aloadn (okC hg hs hv) 2 rfl rfl dL_616 ?_
  refine l_arg (okC hg hs hv) hX (nFC h0 hb) rfl rfl hj hL 1 (by decide) (y := 1) (by decide) (by decide) dL_617 dL_618 dL_619 dL_620 dL_621 ?_
  refine r_callV (okC hg hs hv) (As := [.int (xs (j + 1))]) (rest := []) (st1 := [.int r]) (c := 11) (i := 0) (TT := T11) (N := 12) MK_X11_ways rfl wi_X11_ways we_X11_ways wm_L_77 hC (cX11_ways (kC_ok hs hv) (e11 _ hs) he f1) (e11 _ hs) (Nat.le_of_ble_eq_true rfl) rfl rfl (Nat.le_of_ble_eq_true rfl) rfl dL_622 (fun _ => ?_)
  refine l_CM ?_
  refine r_aloadn (okM hg hs hv) 1 rfl rfl dL_625 ?_
  refine l_arg (okM hg hs hv) hX (nFM h0 hb) rfl rfl hj hL 1 (by decide) (y := 1) (by decide) (by decide) dL_626 dL_627 dL_628 dL_629 dL_630 ?_
  refine r_callV (okM hg hs hv) (As := [.int (xs (j + 1))]) (rest := [.int r]) (st1 := [.int r, .int r]) (c := 12) (i := 0) (TT := T12) (N := 75) MK_X12_ways rfl wi_X12_ways we_X12_ways wm_L_80 hC (cX12_ways (kM_ok hs hv) e12 f2) e12 (Nat.le_of_ble_eq_true rfl) rfl rfl (Nat.le_of_ble_eq_true rfl) rfl dL_631 (fun _ => ?_)
  refine l_MC hs hz ?_
  exact r_iceq (okC hg hs hv) (tgt := 1457) (by decide) dL_634 (fun _ => kk) (fun q => absurd rfl q)
set_option maxRecDepth 20000 in
set_option maxHeartbeats 2000000 in
theorem wn_ways {z : Zx} {B : Bx} {b L j F : Nat} {xs : Nat → Int32} {Q : State → Prop} {μ ν μ' ν' : Mm} {r : Int32} {σ : Nat} {v : Bool} {C : Nat × Nat} (hg : Og z B code 4 "RopeDanceLaw" (some .boolean) 13 TL) (hX : va_X b L xs (zs z) (zs z).heap) (hb : b < (zs z).heap.size) (hj : j + 6 ≤ L) (hL : L ≤ 3072) (hs : σ < 5) (hv : v = vσ σ ∨ σ = 0) (hC : C.1 ≤ 600000 ∧ C.2 ≤ 7302250) (f1 : fX11_ways_n F (xs (j + 1)) μ = some (r, μ')) (f2 : fX12_ways F (xs (j + 1)) ν = some (r, ν')) (hz : nz σ μ') (kk : Gq z (kC B σ v ν') 4 Q (C) 1457 μ' (lvL B v b (Int32.ofNat j)) []) : Gq z (kC B σ v ν) 4 Q (C) 616 μ (lvL B v b (Int32.ofNat j)) [] := by
  have h0 := hg.2.2.2.2.2.2.2.2.2.1
  refine r_aloadn (okC hg hs hv) 2 rfl rfl dL_616 ?_
  refine l_arg (okC hg hs hv) hX (nFC h0 hb) rfl rfl hj hL 1 (by decide) (y := 1) (by decide) (by decide) dL_617 dL_618 dL_619 dL_620 dL_621 ?_
  refine r_callV (okC hg hs hv) (As := [.int (xs (j + 1))]) (rest := []) (st1 := [.int r]) (c := 11) (i := 0) (TT := T11) (N := 12) MK_X11_ways rfl wi_X11_ways we_X11_ways wm_L_77 hC (nX11_ways (kC_ok hs hv) (e11 _ hs) f1) (e11 _ hs) (Nat.le_of_ble_eq_true rfl) rfl rfl (Nat.le_of_ble_eq_true rfl) rfl dL_622 (fun _ => ?_)
  refine l_CM ?_
  refine r_aloadn (okM hg hs hv) 1 rfl rfl dL_625 ?_
  refine l_arg (okM hg hs hv) hX (nFM h0 hb) rfl rfl hj hL 1 (by decide) (y := 1) (by decide) (by decide) dL_626 dL_627 dL_628 dL_629 dL_630 ?_
  refine r_callV (okM hg hs hv) (As := [.int (xs (j + 1))]) (rest := [.int r]) (st1 := [.int r, .int r]) (c := 12) (i := 0) (TT := T12) (N := 75) MK_X12_ways rfl wi_X12_ways we_X12_ways wm_L_80 hC (cX12_ways (kM_ok hs hv) e12 f2) e12 (Nat.le_of_ble_eq_true rfl) rfl rfl (Nat.le_of_ble_eq_true rfl) rfl dL_631 (fun _ => ?_)
  refine l_MC hs hz ?_
  exact r_iceq (okC hg hs hv) (tgt := 1457) (by decide) dL_634 (fun _ => kk) (fun q => absurd rfl q)
set_option maxRecDepth 20000 in
set_option maxHeartbeats 2000000 in
theorem wa0_ways {z : Zx} {B : Bx} {b L j F : Nat} {xs : Nat → Int32} {Q : State → Prop} {μ ν μ' ν' : Mm} {r : Int32} (hg : Og z B code 4 "RopeDanceLaw" (some .boolean) 13 TL) (hX : va_X b L xs (zs z) (zs z).heap) (hb : b < (zs z).heap.size) (hj : j + 6 ≤ L) (hL : L ≤ 3072) (f1 : fX11_ways_a F (xs (j + 1)) μ = some (r, μ')) (f2 : fX12_ways F (xs (j + 1)) ν = some (r, ν')) (hz : nz 1 μ') (kk : Gq z (kC B 1 false ν') 4 Q (Cs 1) 1457 μ' (lvL B false b (Int32.ofNat j)) []) : Gq z (kC B 0 false ν) 4 Q (Cs 0) 616 μ (lvL B false b (Int32.ofNat j)) [] := by
  have h0 := hg.2.2.2.2.2.2.2.2.2.1
  refine r_aloadn (okC hg (by decide : 0 < 5) (Or.inr rfl)) 2 rfl rfl dL_616 ?_
  refine l_arg (okC hg (by decide : 0 < 5) (Or.inr rfl)) hX (nFC h0 hb) rfl rfl hj hL 1 (by decide) (y := 1) (by decide) (by decide) dL_617 dL_618 dL_619 dL_620 dL_621 ?_
  refine r_callVa (k := kB B (ad false (b0 B)) (roC B (ad false (b0 B)) Lm ν)) (L := Lc 0) (N := nU) (L' := lX10 (Lc 0)) (T1 := (3, 9902)) (okC hg (by decide : 0 < 5) (Or.inr rfl)) (oc_of hg) (As := [.int (xs (j + 1))]) (rest := []) (st1 := [.int r]) (c := 11) (i := 0) (TT := T11) (N2 := 12) MK_X11_ways rfl wi_X11_ways we_X11_ways wm_L_77 ⟨Nat.le_of_ble_eq_true rfl, Nat.le_of_ble_eq_true rfl⟩ (aX11_ways (kC_ok (by decide : 0 < 5) (Or.inr rfl)) (show kok (kC B 1 false ν) from kC_ok (by decide : 1 < 5) (Or.inl rfl)) (e11 _ (by decide : 0 < 5)) f1) (by rw [← h0]; exact AL_sub AL_NN 208 3 rfl) (e11 _ (by decide : 0 < 5)) (Nat.le_of_ble_eq_true rfl) rfl rfl (Nat.le_of_ble_eq_true rfl) rfl dL_622 (fun _ => ?_)
  refine g_C (C' := Cs 1) rfl ?_
  show Gq z (kC B 1 false ν) 4 Q (Cs 1) 625 μ' (lvL B false b (Int32.ofNat j)) [.int r]
  refine l_CM ?_
  refine r_aloadn (okM hg (by decide : 1 < 5) (Or.inl rfl)) 1 rfl rfl dL_625 ?_
  refine l_arg (okM hg (by decide : 1 < 5) (Or.inl rfl)) hX (nFM h0 hb) rfl rfl hj hL 1 (by decide) (y := 1) (by decide) (by decide) dL_626 dL_627 dL_628 dL_629 dL_630 ?_
  refine r_callV (okM hg (by decide : 1 < 5) (Or.inl rfl)) (As := [.int (xs (j + 1))]) (rest := [.int r]) (st1 := [.int r, .int r]) (c := 12) (i := 0) (TT := T12) (N := 75) MK_X12_ways rfl wi_X12_ways we_X12_ways wm_L_80 (Cs_le _ (by decide : 1 < 5)) (cX12_ways (kM_ok (by decide : 1 < 5) (Or.inl rfl)) e12 f2) e12 (Nat.le_of_ble_eq_true rfl) rfl rfl (Nat.le_of_ble_eq_true rfl) rfl dL_631 (fun _ => ?_)
  refine l_MC (by decide : 1 < 5) hz ?_
  exact r_iceq (okC hg (by decide : 1 < 5) (Or.inl rfl)) (tgt := 1457) (by decide) dL_634 (fun _ => kk) (fun q => absurd rfl q)
set_option maxRecDepth 20000 in
set_option maxHeartbeats 2000000 in
theorem wa2_ways {z : Zx} {B : Bx} {b L j F : Nat} {xs : Nat → Int32} {Q : State → Prop} {μ ν μ' ν' : Mm} {r : Int32} (hg : Og z B code 4 "RopeDanceLaw" (some .boolean) 13 TL) (hX : va_X b L xs (zs z) (zs z).heap) (hb : b < (zs z).heap.size) (hj : j + 6 ≤ L) (hL : L ≤ 3072) (f1 : fX11_ways_a F (xs (j + 1)) μ = some (r, μ')) (f2 : fX12_ways F (xs (j + 1)) ν = some (r, ν')) (hz : nz 4 μ') (kk : Gq z (kC B 4 true ν') 4 Q (Cs 4) 1457 μ' (lvL B true b (Int32.ofNat j)) []) : Gq z (kC B 2 true ν) 4 Q (Cs 2) 616 μ (lvL B true b (Int32.ofNat j)) [] := by
  have h0 := hg.2.2.2.2.2.2.2.2.2.1
  refine r_aloadn (okC hg (by decide : 2 < 5) (Or.inl rfl)) 2 rfl rfl dL_616 ?_
  refine l_arg (okC hg (by decide : 2 < 5) (Or.inl rfl)) hX (nFC h0 hb) rfl rfl hj hL 1 (by decide) (y := 1) (by decide) (by decide) dL_617 dL_618 dL_619 dL_620 dL_621 ?_
  refine r_callVa (k := kB B (ad true (b0 B)) (roC B (ad true (b0 B)) Lm ν)) (L := Lc 2) (N := nU) (L' := lX10 (Lc 2)) (T1 := (3, 9902)) (okC hg (by decide : 2 < 5) (Or.inl rfl)) (oc_of hg) (As := [.int (xs (j + 1))]) (rest := []) (st1 := [.int r]) (c := 11) (i := 0) (TT := T11) (N2 := 12) MK_X11_ways rfl wi_X11_ways we_X11_ways wm_L_77 ⟨Nat.le_of_ble_eq_true rfl, Nat.le_of_ble_eq_true rfl⟩ (aX11_ways (kC_ok (by decide : 2 < 5) (Or.inl rfl)) (show kok (kC B 4 true ν) from kC_ok (by decide : 4 < 5) (Or.inl rfl)) (e11 _ (by decide : 2 < 5)) f1) (by rw [← h0]; exact AL_sub AL_NN 212 3 rfl) (e11 _ (by decide : 2 < 5)) (Nat.le_of_ble_eq_true rfl) rfl rfl (Nat.le_of_ble_eq_true rfl) rfl dL_622 (fun _ => ?_)
  refine g_C (C' := Cs 4) rfl ?_
  show Gq z (kC B 4 true ν) 4 Q (Cs 4) 625 μ' (lvL B true b (Int32.ofNat j)) [.int r]
  refine l_CM ?_
  refine r_aloadn (okM hg (by decide : 4 < 5) (Or.inl rfl)) 1 rfl rfl dL_625 ?_
  refine l_arg (okM hg (by decide : 4 < 5) (Or.inl rfl)) hX (nFM h0 hb) rfl rfl hj hL 1 (by decide) (y := 1) (by decide) (by decide) dL_626 dL_627 dL_628 dL_629 dL_630 ?_
  refine r_callV (okM hg (by decide : 4 < 5) (Or.inl rfl)) (As := [.int (xs (j + 1))]) (rest := [.int r]) (st1 := [.int r, .int r]) (c := 12) (i := 0) (TT := T12) (N := 75) MK_X12_ways rfl wi_X12_ways we_X12_ways wm_L_80 (Cs_le _ (by decide : 4 < 5)) (cX12_ways (kM_ok (by decide : 4 < 5) (Or.inl rfl)) e12 f2) e12 (Nat.le_of_ble_eq_true rfl) rfl rfl (Nat.le_of_ble_eq_true rfl) rfl dL_631 (fun _ => ?_)
  refine l_MC (by decide : 4 < 5) hz ?_
  exact r_iceq (okC hg (by decide : 4 < 5) (Or.inl rfl)) (tgt := 1457) (by decide) dL_634 (fun _ => kk) (fun q => absurd rfl q)
set_option maxRecDepth 20000 in
set_option maxHeartbeats 2000000 in
theorem w_step {z : Zx} {B : Bx} {b L j F : Nat} {xs : Nat → Int32} {Q : State → Prop} {μ ν μ' ν' : Mm} {r : Int32} {σ : Nat} {v : Bool} {C : Nat × Nat} (hg : Og z B code 4 "RopeDanceLaw" (some .boolean) 13 TL) (hX : va_X b L xs (zs z) (zs z).heap) (hb : b < (zs z).heap.size) (hj : j + 6 ≤ L) (hL : L ≤ 3072) (hs : σ < 5) (hv : v = vσ σ ∨ σ = 0) (hC : C.1 ≤ 600000 ∧ C.2 ≤ 7302250) (he : (10, 0) ∈ Lc σ) (f1 : fX11_step F (xs (j + 1)) (xs (j + 2)) μ = some (r, μ')) (f2 : fX12_step F (xs (j + 1)) (xs (j + 2)) ν = some (r, ν')) (hz : nz σ μ') (kk : Gq z (kC B σ v ν') 4 Q (C) 1457 μ' (lvL B v b (Int32.ofNat j)) []) : Gq z (kC B σ v ν) 4 Q (C) 639 μ (lvL B v b (Int32.ofNat j)) [] := by
  have h0 := hg.2.2.2.2.2.2.2.2.2.1
  refine r_aloadn (okC hg hs hv) 2 rfl rfl dL_639 ?_
  refine l_arg (okC hg hs hv) hX (nFC h0 hb) rfl rfl hj hL 1 (by decide) (y := 1) (by decide) (by decide) dL_640 dL_641 dL_642 dL_643 dL_644 ?_
  refine l_arg (okC hg hs hv) hX (nFC h0 hb) rfl rfl hj hL 2 (by decide) (y := 2) (by decide) (by decide) dL_645 dL_646 dL_647 dL_648 dL_649 ?_
  refine r_callV (okC hg hs hv) (As := [.int (xs (j + 1)), .int (xs (j + 2))]) (rest := []) (st1 := [.int r]) (c := 11) (i := 0) (TT := T11) (N := 12) MK_X11_step rfl wi_X11_step we_X11_step wm_L_81 hC (cX11_step (kC_ok hs hv) (e11 _ hs) he f1) (e11 _ hs) (Nat.le_of_ble_eq_true rfl) rfl rfl (Nat.le_of_ble_eq_true rfl) rfl dL_650 (fun _ => ?_)
  refine l_CM ?_
  refine r_aloadn (okM hg hs hv) 1 rfl rfl dL_653 ?_
  refine l_arg (okM hg hs hv) hX (nFM h0 hb) rfl rfl hj hL 1 (by decide) (y := 1) (by decide) (by decide) dL_654 dL_655 dL_656 dL_657 dL_658 ?_
  refine l_arg (okM hg hs hv) hX (nFM h0 hb) rfl rfl hj hL 2 (by decide) (y := 2) (by decide) (by decide) dL_659 dL_660 dL_661 dL_662 dL_663 ?_
  refine r_callV (okM hg hs hv) (As := [.int (xs (j + 1)), .int (xs (j + 2))]) (rest := [.int r]) (st1 := [.int r, .int r]) (c := 12) (i := 0) (TT := T12) (N := 75) MK_X12_step rfl wi_X12_step we_X12_step wm_L_84 hC (cX12_step (kM_ok hs hv) e12 f2) e12 (Nat.le_of_ble_eq_true rfl) rfl rfl (Nat.le_of_ble_eq_true rfl) rfl dL_664 (fun _ => ?_)
  refine l_MC hs hz ?_
  exact r_iceq (okC hg hs hv) (tgt := 1457) (by decide) dL_667 (fun _ => kk) (fun q => absurd rfl q)
set_option maxRecDepth 20000 in
set_option maxHeartbeats 2000000 in
theorem wn_step {z : Zx} {B : Bx} {b L j F : Nat} {xs : Nat → Int32} {Q : State → Prop} {μ ν μ' ν' : Mm} {r : Int32} {σ : Nat} {v : Bool} {C : Nat × Nat} (hg : Og z B code 4 "RopeDanceLaw" (some .boolean) 13 TL) (hX : va_X b L xs (zs z) (zs z).heap) (hb : b < (zs z).heap.size) (hj : j + 6 ≤ L) (hL : L ≤ 3072) (hs : σ < 5) (hv : v = vσ σ ∨ σ = 0) (hC : C.1 ≤ 600000 ∧ C.2 ≤ 7302250) (f1 : fX11_step_n F (xs (j + 1)) (xs (j + 2)) μ = some (r, μ')) (f2 : fX12_step F (xs (j + 1)) (xs (j + 2)) ν = some (r, ν')) (hz : nz σ μ') (kk : Gq z (kC B σ v ν') 4 Q (C) 1457 μ' (lvL B v b (Int32.ofNat j)) []) : Gq z (kC B σ v ν) 4 Q (C) 639 μ (lvL B v b (Int32.ofNat j)) [] := by
  have h0 := hg.2.2.2.2.2.2.2.2.2.1
  refine r_aloadn (okC hg hs hv) 2 rfl rfl dL_639 ?_
  refine l_arg (okC hg hs hv) hX (nFC h0 hb) rfl rfl hj hL 1 (by decide) (y := 1) (by decide) (by decide) dL_640 dL_641 dL_642 dL_643 dL_644 ?_
  refine l_arg (okC hg hs hv) hX (nFC h0 hb) rfl rfl hj hL 2 (by decide) (y := 2) (by decide) (by decide) dL_645 dL_646 dL_647 dL_648 dL_649 ?_
  refine r_callV (okC hg hs hv) (As := [.int (xs (j + 1)), .int (xs (j + 2))]) (rest := []) (st1 := [.int r]) (c := 11) (i := 0) (TT := T11) (N := 12) MK_X11_step rfl wi_X11_step we_X11_step wm_L_81 hC (nX11_step (kC_ok hs hv) (e11 _ hs) f1) (e11 _ hs) (Nat.le_of_ble_eq_true rfl) rfl rfl (Nat.le_of_ble_eq_true rfl) rfl dL_650 (fun _ => ?_)
  refine l_CM ?_
  refine r_aloadn (okM hg hs hv) 1 rfl rfl dL_653 ?_
  refine l_arg (okM hg hs hv) hX (nFM h0 hb) rfl rfl hj hL 1 (by decide) (y := 1) (by decide) (by decide) dL_654 dL_655 dL_656 dL_657 dL_658 ?_
  refine l_arg (okM hg hs hv) hX (nFM h0 hb) rfl rfl hj hL 2 (by decide) (y := 2) (by decide) (by decide) dL_659 dL_660 dL_661 dL_662 dL_663 ?_
  refine r_callV (okM hg hs hv) (As := [.int (xs (j + 1)), .int (xs (j + 2))]) (rest := [.int r]) (st1 := [.int r, .int r]) (c := 12) (i := 0) (TT := T12) (N := 75) MK_X12_step rfl wi_X12_step we_X12_step wm_L_84 hC (cX12_step (kM_ok hs hv) e12 f2) e12 (Nat.le_of_ble_eq_true rfl) rfl rfl (Nat.le_of_ble_eq_true rfl) rfl dL_664 (fun _ => ?_)
  refine l_MC hs hz ?_
  exact r_iceq (okC hg hs hv) (tgt := 1457) (by decide) dL_667 (fun _ => kk) (fun q => absurd rfl q)
set_option maxRecDepth 20000 in
set_option maxHeartbeats 2000000 in
theorem wa0_step {z : Zx} {B : Bx} {b L j F : Nat} {xs : Nat → Int32} {Q : State → Prop} {μ ν μ' ν' : Mm} {r : Int32} (hg : Og z B code 4 "RopeDanceLaw" (some .boolean) 13 TL) (hX : va_X b L xs (zs z) (zs z).heap) (hb : b < (zs z).heap.size) (hj : j + 6 ≤ L) (hL : L ≤ 3072) (f1 : fX11_step_a F (xs (j + 1)) (xs (j + 2)) μ = some (r, μ')) (f2 : fX12_step F (xs (j + 1)) (xs (j + 2)) ν = some (r, ν')) (hz : nz 1 μ') (kk : Gq z (kC B 1 false ν') 4 Q (Cs 1) 1457 μ' (lvL B false b (Int32.ofNat j)) []) : Gq z (kC B 0 false ν) 4 Q (Cs 0) 639 μ (lvL B false b (Int32.ofNat j)) [] := by
  have h0 := hg.2.2.2.2.2.2.2.2.2.1
  refine r_aloadn (okC hg (by decide : 0 < 5) (Or.inr rfl)) 2 rfl rfl dL_639 ?_
  refine l_arg (okC hg (by decide : 0 < 5) (Or.inr rfl)) hX (nFC h0 hb) rfl rfl hj hL 1 (by decide) (y := 1) (by decide) (by decide) dL_640 dL_641 dL_642 dL_643 dL_644 ?_
  refine l_arg (okC hg (by decide : 0 < 5) (Or.inr rfl)) hX (nFC h0 hb) rfl rfl hj hL 2 (by decide) (y := 2) (by decide) (by decide) dL_645 dL_646 dL_647 dL_648 dL_649 ?_
  refine r_callVa (k := kB B (ad false (b0 B)) (roC B (ad false (b0 B)) Lm ν)) (L := Lc 0) (N := nU) (L' := lX10 (Lc 0)) (T1 := (3, 9902)) (okC hg (by decide : 0 < 5) (Or.inr rfl)) (oc_of hg) (As := [.int (xs (j + 1)), .int (xs (j + 2))]) (rest := []) (st1 := [.int r]) (c := 11) (i := 0) (TT := T11) (N2 := 12) MK_X11_step rfl wi_X11_step we_X11_step wm_L_81 ⟨Nat.le_of_ble_eq_true rfl, Nat.le_of_ble_eq_true rfl⟩ (aX11_step (kC_ok (by decide : 0 < 5) (Or.inr rfl)) (show kok (kC B 1 false ν) from kC_ok (by decide : 1 < 5) (Or.inl rfl)) (e11 _ (by decide : 0 < 5)) f1) (by rw [← h0]; exact AL_sub AL_NN 208 3 rfl) (e11 _ (by decide : 0 < 5)) (Nat.le_of_ble_eq_true rfl) rfl rfl (Nat.le_of_ble_eq_true rfl) rfl dL_650 (fun _ => ?_)
  refine g_C (C' := Cs 1) rfl ?_
  show Gq z (kC B 1 false ν) 4 Q (Cs 1) 653 μ' (lvL B false b (Int32.ofNat j)) [.int r]
  refine l_CM ?_
  refine r_aloadn (okM hg (by decide : 1 < 5) (Or.inl rfl)) 1 rfl rfl dL_653 ?_
  refine l_arg (okM hg (by decide : 1 < 5) (Or.inl rfl)) hX (nFM h0 hb) rfl rfl hj hL 1 (by decide) (y := 1) (by decide) (by decide) dL_654 dL_655 dL_656 dL_657 dL_658 ?_
  refine l_arg (okM hg (by decide : 1 < 5) (Or.inl rfl)) hX (nFM h0 hb) rfl rfl hj hL 2 (by decide) (y := 2) (by decide) (by decide) dL_659 dL_660 dL_661 dL_662 dL_663 ?_
  refine r_callV (okM hg (by decide : 1 < 5) (Or.inl rfl)) (As := [.int (xs (j + 1)), .int (xs (j + 2))]) (rest := [.int r]) (st1 := [.int r, .int r]) (c := 12) (i := 0) (TT := T12) (N := 75) MK_X12_step rfl wi_X12_step we_X12_step wm_L_84 (Cs_le _ (by decide : 1 < 5)) (cX12_step (kM_ok (by decide : 1 < 5) (Or.inl rfl)) e12 f2) e12 (Nat.le_of_ble_eq_true rfl) rfl rfl (Nat.le_of_ble_eq_true rfl) rfl dL_664 (fun _ => ?_)
  refine l_MC (by decide : 1 < 5) hz ?_
  exact r_iceq (okC hg (by decide : 1 < 5) (Or.inl rfl)) (tgt := 1457) (by decide) dL_667 (fun _ => kk) (fun q => absurd rfl q)
set_option maxRecDepth 20000 in
set_option maxHeartbeats 2000000 in
theorem wa2_step {z : Zx} {B : Bx} {b L j F : Nat} {xs : Nat → Int32} {Q : State → Prop} {μ ν μ' ν' : Mm} {r : Int32} (hg : Og z B code 4 "RopeDanceLaw" (some .boolean) 13 TL) (hX : va_X b L xs (zs z) (zs z).heap) (hb : b < (zs z).heap.size) (hj : j + 6 ≤ L) (hL : L ≤ 3072) (f1 : fX11_step_a F (xs (j + 1)) (xs (j + 2)) μ = some (r, μ')) (f2 : fX12_step F (xs (j + 1)) (xs (j + 2)) ν = some (r, ν')) (hz : nz 4 μ') (kk : Gq z (kC B 4 true ν') 4 Q (Cs 4) 1457 μ' (lvL B true b (Int32.ofNat j)) []) : Gq z (kC B 2 true ν) 4 Q (Cs 2) 639 μ (lvL B true b (Int32.ofNat j)) [] := by
  have h0 := hg.2.2.2.2.2.2.2.2.2.1
  refine r_aloadn (okC hg (by decide : 2 < 5) (Or.inl rfl)) 2 rfl rfl dL_639 ?_
  refine l_arg (okC hg (by decide : 2 < 5) (Or.inl rfl)) hX (nFC h0 hb) rfl rfl hj hL 1 (by decide) (y := 1) (by decide) (by decide) dL_640 dL_641 dL_642 dL_643 dL_644 ?_
  refine l_arg (okC hg (by decide : 2 < 5) (Or.inl rfl)) hX (nFC h0 hb) rfl rfl hj hL 2 (by decide) (y := 2) (by decide) (by decide) dL_645 dL_646 dL_647 dL_648 dL_649 ?_
  refine r_callVa (k := kB B (ad true (b0 B)) (roC B (ad true (b0 B)) Lm ν)) (L := Lc 2) (N := nU) (L' := lX10 (Lc 2)) (T1 := (3, 9902)) (okC hg (by decide : 2 < 5) (Or.inl rfl)) (oc_of hg) (As := [.int (xs (j + 1)), .int (xs (j + 2))]) (rest := []) (st1 := [.int r]) (c := 11) (i := 0) (TT := T11) (N2 := 12) MK_X11_step rfl wi_X11_step we_X11_step wm_L_81 ⟨Nat.le_of_ble_eq_true rfl, Nat.le_of_ble_eq_true rfl⟩ (aX11_step (kC_ok (by decide : 2 < 5) (Or.inl rfl)) (show kok (kC B 4 true ν) from kC_ok (by decide : 4 < 5) (Or.inl rfl)) (e11 _ (by decide : 2 < 5)) f1) (by rw [← h0]; exact AL_sub AL_NN 212 3 rfl) (e11 _ (by decide : 2 < 5)) (Nat.le_of_ble_eq_true rfl) rfl rfl (Nat.le_of_ble_eq_true rfl) rfl dL_650 (fun _ => ?_)
  refine g_C (C' := Cs 4) rfl ?_
  show Gq z (kC B 4 true ν) 4 Q (Cs 4) 653 μ' (lvL B true b (Int32.ofNat j)) [.int r]
  refine l_CM ?_
  refine r_aloadn (okM hg (by decide : 4 < 5) (Or.inl rfl)) 1 rfl rfl dL_653 ?_
  refine l_arg (okM hg (by decide : 4 < 5) (Or.inl rfl)) hX (nFM h0 hb) rfl rfl hj hL 1 (by decide) (y := 1) (by decide) (by decide) dL_654 dL_655 dL_656 dL_657 dL_658 ?_
  refine l_arg (okM hg (by decide : 4 < 5) (Or.inl rfl)) hX (nFM h0 hb) rfl rfl hj hL 2 (by decide) (y := 2) (by decide) (by decide) dL_659 dL_660 dL_661 dL_662 dL_663 ?_
  refine r_callV (okM hg (by decide : 4 < 5) (Or.inl rfl)) (As := [.int (xs (j + 1)), .int (xs (j + 2))]) (rest := [.int r]) (st1 := [.int r, .int r]) (c := 12) (i := 0) (TT := T12) (N := 75) MK_X12_step rfl wi_X12_step we_X12_step wm_L_84 (Cs_le _ (by decide : 4 < 5)) (cX12_step (kM_ok (by decide : 4 < 5) (Or.inl rfl)) e12 f2) e12 (Nat.le_of_ble_eq_true rfl) rfl rfl (Nat.le_of_ble_eq_true rfl) rfl dL_664 (fun _ => ?_)
  refine l_MC (by decide : 4 < 5) hz ?_
  exact r_iceq (okC hg (by decide : 4 < 5) (Or.inl rfl)) (tgt := 1457) (by decide) dL_667 (fun _ => kk) (fun q => absurd rfl q)
