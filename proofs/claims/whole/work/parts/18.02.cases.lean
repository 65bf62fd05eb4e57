set_option maxRecDepth 20000 in
set_option maxHeartbeats 2000000 in
theorem w_plan {z : Zx} {B : Bx} {b L j F : Nat} {xs : Nat → Int32} {Q : State → Prop} {μ ν μ' ν' : Mm} {r : Int32} {σ : Nat} {v : Bool} {C : Nat × Nat} (hg : Og z B code 4 "RopeDanceLaw" (some .boolean) 13 TL) (hX : va_X b L xs (zs z) (zs z).heap) (hb : b < (zs z).heap.size) (hj : j + 6 ≤ L) (hL : L ≤ 3072) (hs : σ < 5) (hv : v = vσ σ ∨ σ = 0) (hC : C.1 ≤ 600000 ∧ C.2 ≤ 7302250) (he : (4, 0) ∈ Lc σ) (f1 : fX11_plan F (xs (j + 1)) (xs (j + 2)) μ = some (r, μ')) (f2 : fX12_plan F (xs (j + 1)) (xs (j + 2)) ν = some (r, ν')) (hz : nz σ μ') (kk : Gq z (kC B σ v ν') 4 Q (C) 1457 μ' (lvL B v b (Int32.ofNat j)) []) : Gq z (kC B σ v ν) 4 Q (C) 672 μ (lvL B v b (Int32.ofNat j)) [] := by
  have h0 := hg.2.2.2.2.2.2.2.2.2.1
  refine r_aloadn (okC hg hs hv) 2 rfl rfl dL_672 ?_
  refine l_arg (okC hg hs hv) hX (nFC h0 hb) rfl rfl hj hL 1 (by decide) (y := 1) (by decide) (by decide) dL_673 dL_674 dL_675 dL_676 dL_677 ?_
  refine l_arg (okC hg hs hv) hX (nFC h0 hb) rfl rfl hj hL 2 (by decide) (y := 2) (by decide) (by decide) dL_678 dL_679 dL_680 dL_681 dL_682 ?_
  refine r_callV (okC hg hs hv) (As := [.int (xs (j + 1)), .int (xs (j + 2))]) (rest := []) (st1 := [.int r]) (c := 11) (i := 0) (TT := T11) (N := 12) MK_X11_plan rfl wi_X11_plan we_X11_plan wm_L_85 hC (cX11_plan (kC_ok hs hv) (e11 _ hs) he f1) (e11 _ hs) (Nat.le_of_ble_eq_true rfl) rfl rfl (Nat.le_of_ble_eq_true rfl) rfl dL_683 (fun _ => ?_)
  refine l_CM ?_
  refine r_aloadn (okM hg hs hv) 1 rfl rfl dL_686 ?_
  refine l_arg (okM hg hs hv) hX (nFM h0 hb) rfl rfl hj hL 1 (by decide) (y := 1) (by decide) (by decide) dL_687 dL_688 dL_689 dL_690 dL_691 ?_
  refine l_arg (okM hg hs hv) hX (nFM h0 hb) rfl rfl hj hL 2 (by decide) (y := 2) (by decide) (by decide) dL_692 dL_693 dL_694 dL_695 dL_696 ?_
  refine r_callV (okM hg hs hv) (As := [.int (xs (j + 1)), .int (xs (j + 2))]) (rest := [.int r]) (st1 := [.int r, .int r]) (c := 12) (i := 0) (TT := T12) (N := 75) MK_X12_plan rfl wi_X12_plan we_X12_plan wm_L_88 hC (cX12_plan (kM_ok hs hv) e12 f2) e12 (Nat.le_of_ble_eq_true rfl) rfl rfl (Nat.le_of_ble_eq_true rfl) rfl dL_697 (fun _ => ?_)
  refine l_MC hs hz ?_
  exact r_iceq (okC hg hs hv) (tgt := 1457) (by decide) dL_700 (fun _ => kk) (fun q => absurd rfl q)
set_option maxRecDepth 20000 in
set_option maxHeartbeats 2000000 in
theorem wn_plan {z : Zx} {B : Bx} {b L j F : Nat} {xs : Nat → Int32} {Q : State → Prop} {μ ν μ' ν' : Mm} {r : Int32} {σ : Nat} {v : Bool} {C : Nat × Nat} (hg : Og z B code 4 "RopeDanceLaw" (some .boolean) 13 TL) (hX : va_X b L xs (zs z) (zs z).heap) (hb : b < (zs z).heap.size) (hj : j + 6 ≤ L) (hL : L ≤ 3072) (hs : σ < 5) (hv : v = vσ σ ∨ σ = 0) (hC : C.1 ≤ 600000 ∧ C.2 ≤ 7302250) (f1 : fX11_plan_n F (xs (j + 1)) (xs (j + 2)) μ = some (r, μ')) (f2 : fX12_plan F (xs (j + 1)) (xs (j + 2)) ν = some (r, ν')) (hz : nz σ μ') (kk : Gq z (kC B σ v ν') 4 Q (C) 1457 μ' (lvL B v b (Int32.ofNat j)) []) : Gq z (kC B σ v ν) 4 Q (C) 672 μ (lvL B v b (Int32.ofNat j)) [] := by
  have h0 := hg.2.2.2.2.2.2.2.2.2.1
  refine r_aloadn (okC hg hs hv) 2 rfl rfl dL_672 ?_
  refine l_arg (okC hg hs hv) hX (nFC h0 hb) rfl rfl hj hL 1 (by decide) (y := 1) (by decide) (by decide) dL_673 dL_674 dL_675 dL_676 dL_677 ?_
  refine l_arg (okC hg hs hv) hX (nFC h0 hb) rfl rfl hj hL 2 (by decide) (y := 2) (by decide) (by decide) dL_678 dL_679 dL_680 dL_681 dL_682 ?_
  refine r_callV (okC hg hs hv) (As := [.int (xs (j + 1)), .int (xs (j + 2))]) (rest := []) (st1 := [.int r]) (c := 11) (i := 0) (TT := T11) (N := 12) MK_X11_plan rfl wi_X11_plan we_X11_plan wm_L_85 hC (nX11_plan (kC_ok hs hv) (e11 _ hs) f1) (e11 _ hs) (Nat.le_of_ble_eq_true rfl) rfl rfl (Nat.le_of_ble_eq_true rfl) rfl dL_683 (fun _ => ?_)
  refine l_CM ?_
  refine r_aloadn (okM hg hs hv) 1 rfl rfl dL_686 ?_
  refine l_arg (okM hg hs hv) hX (nFM h0 hb) rfl rfl hj hL 1 (by decide) (y := 1) (by decide) (by decide) dL_687 dL_688 dL_689 dL_690 dL_691 ?_
  refine l_arg (okM hg hs hv) hX (nFM h0 hb) rfl rfl hj hL 2 (by decide) (y := 2) (by decide) (by decide) dL_692 dL_693 dL_694 dL_695 dL_696 ?_
  refine r_callV (okM hg hs hv) (As := [.int (xs (j + 1)), .int (xs (j + 2))]) (rest := [.int r]) (st1 := [.int r, .int r]) (c := 12) (i := 0) (TT := T12) (N := 75) MK_X12_plan rfl wi_X12_plan we_X12_plan wm_L_88 hC (cX12_plan (kM_ok hs hv) e12 f2) e12 (Nat.le_of_ble_eq_true rfl) rfl rfl (Nat.le_of_ble_eq_true rfl) rfl dL_697 (fun _ => ?_)
  refine l_MC hs hz ?_
  exact r_iceq (okC hg hs hv) (tgt := 1457) (by decide) dL_700 (fun _ => kk) (fun q => absurd rfl q)
set_option maxRecDepth 20000 in
set_option maxHeartbeats 2000000 in
theorem wa0_plan {z : Zx} {B : Bx} {b L j F : Nat} {xs : Nat → Int32} {Q : State → Prop} {μ ν μ' ν' : Mm} {r : Int32} (hg : Og z B code 4 "RopeDanceLaw" (some .boolean) 13 TL) (hX : va_X b L xs (zs z) (zs z).heap) (hb : b < (zs z).heap.size) (hj : j + 6 ≤ L) (hL : L ≤ 3072) (f1 : fX11_plan_a F (xs (j + 1)) (xs (j + 2)) μ = some (r, μ')) (f2 : fX12_plan F (xs (j + 1)) (xs (j + 2)) ν = some (r, ν')) (hz : nz 2 μ') (kk : Gq z (kC B 2 true ν') 4 Q (Cs 2) 1457 μ' (lvL B true b (Int32.ofNat j)) []) : Gq z (kC B 0 true ν) 4 Q (Cs 0) 672 μ (lvL B true b (Int32.ofNat j)) [] := by
  have h0 := hg.2.2.2.2.2.2.2.2.2.1
  refine r_aloadn (okC hg (by decide : 0 < 5) (Or.inr rfl)) 2 rfl rfl dL_672 ?_
  refine l_arg (okC hg (by decide : 0 < 5) (Or.inr rfl)) hX (nFC h0 hb) rfl rfl hj hL 1 (by decide) (y := 1) (by decide) (by decide) dL_673 dL_674 dL_675 dL_676 dL_677 ?_
  refine l_arg (okC hg (by decide : 0 < 5) (Or.inr rfl)) hX (nFC h0 hb) rfl rfl hj hL 2 (by decide) (y := 2) (by decide) (by decide) dL_678 dL_679 dL_680 dL_681 dL_682 ?_
  refine r_callVa (k := kB B (ad true (b0 B)) (roC B (ad true (b0 B)) Lm ν)) (L := Lc 0) (N := nS) (L' := lX4 (Lc 0)) (T1 := (4, 31925)) (okC hg (by decide : 0 < 5) (Or.inr rfl)) (oc_of hg) (As := [.int (xs (j + 1)), .int (xs (j + 2))]) (rest := []) (st1 := [.int r]) (c := 11) (i := 0) (TT := T11) (N2 := 12) MK_X11_plan rfl wi_X11_plan we_X11_plan wm_L_85 ⟨Nat.le_of_ble_eq_true rfl, Nat.le_of_ble_eq_true rfl⟩ (aX11_plan (kC_ok (by decide : 0 < 5) (Or.inr rfl)) (show kok (kC B 2 true ν) from kC_ok (by decide : 2 < 5) (Or.inl rfl)) (e11 _ (by decide : 0 < 5)) f1) (by rw [← h0]; exact AL_sub AL_NN 208 4 rfl) (e11 _ (by decide : 0 < 5)) (Nat.le_of_ble_eq_true rfl) rfl rfl (Nat.le_of_ble_eq_true rfl) rfl dL_683 (fun _ => ?_)
  refine g_C (C' := Cs 2) rfl ?_
  show Gq z (kC B 2 true ν) 4 Q (Cs 2) 686 μ' (lvL B true b (Int32.ofNat j)) [.int r]
  refine l_CM ?_
  refine r_aloadn (okM hg (by decide : 2 < 5) (Or.inl rfl)) 1 rfl rfl dL_686 ?_
  refine l_arg (okM hg (by decide : 2 < 5) (Or.inl rfl)) hX (nFM h0 hb) rfl rfl hj hL 1 (by decide) (y := 1) (by decide) (by decide) dL_687 dL_688 dL_689 dL_690 dL_691 ?_
  refine l_arg (okM hg (by decide : 2 < 5) (Or.inl rfl)) hX (nFM h0 hb) rfl rfl hj hL 2 (by decide) (y := 2) (by decide) (by decide) dL_692 dL_693 dL_694 dL_695 dL_696 ?_
  refine r_callV (okM hg (by decide : 2 < 5) (Or.inl rfl)) (As := [.int (xs (j + 1)), .int (xs (j + 2))]) (rest := [.int r]) (st1 := [.int r, .int r]) (c := 12) (i := 0) (TT := T12) (N := 75) MK_X12_plan rfl wi_X12_plan we_X12_plan wm_L_88 (Cs_le _ (by decide : 2 < 5)) (cX12_plan (kM_ok (by decide : 2 < 5) (Or.inl rfl)) e12 f2) e12 (Nat.le_of_ble_eq_true rfl) rfl rfl (Nat.le_of_ble_eq_true rfl) rfl dL_697 (fun _ => ?_)
  refine l_MC (by decide : 2 < 5) hz ?_
  exact r_iceq (okC hg (by decide : 2 < 5) (Or.inl rfl)) (tgt := 1457) (by decide) dL_700 (fun _ => kk) (fun q => absurd rfl q)
set_option maxRecDepth 20000 in
set_option maxHeartbeats 2000000 in
theorem wa1_plan {z : Zx} {B : Bx} {b L j F : Nat} {xs : Nat → Int32} {Q : State → Prop} {μ ν μ' ν' : Mm} {r : Int32} (hg : Og z B code 4 "RopeDanceLaw" (some .boolean) 13 TL) (hX : va_X b L xs (zs z) (zs z).heap) (hb : b < (zs z).heap.size) (hj : j + 6 ≤ L) (hL : L ≤ 3072) (f1 : fX11_plan_a F (xs (j + 1)) (xs (j + 2)) μ = some (r, μ')) (f2 : fX12_plan F (xs (j + 1)) (xs (j + 2)) ν = some (r, ν')) (hz : nz 3 μ') (kk : Gq z (kC B 3 false ν') 4 Q (Cs 3) 1457 μ' (lvL B false b (Int32.ofNat j)) []) : Gq z (kC B 1 false ν) 4 Q (Cs 1) 672 μ (lvL B false b (Int32.ofNat j)) [] := by
  have h0 := hg.2.2.2.2.2.2.2.2.2.1
  refine r_aloadn (okC hg (by decide : 1 < 5) (Or.inl rfl)) 2 rfl rfl dL_672 ?_
  refine l_arg (okC hg (by decide : 1 < 5) (Or.inl rfl)) hX (nFC h0 hb) rfl rfl hj hL 1 (by decide) (y := 1) (by decide) (by decide) dL_673 dL_674 dL_675 dL_676 dL_677 ?_
  refine l_arg (okC hg (by decide : 1 < 5) (Or.inl rfl)) hX (nFC h0 hb) rfl rfl hj hL 2 (by decide) (y := 2) (by decide) (by decide) dL_678 dL_679 dL_680 dL_681 dL_682 ?_
  refine r_callVa (k := kB B (ad false (b0 B)) (roC B (ad false (b0 B)) Lm ν)) (L := Lc 1) (N := nS) (L' := lX4 (Lc 1)) (T1 := (4, 31925)) (okC hg (by decide : 1 < 5) (Or.inl rfl)) (oc_of hg) (As := [.int (xs (j + 1)), .int (xs (j + 2))]) (rest := []) (st1 := [.int r]) (c := 11) (i := 0) (TT := T11) (N2 := 12) MK_X11_plan rfl wi_X11_plan we_X11_plan wm_L_85 ⟨Nat.le_of_ble_eq_true rfl, Nat.le_of_ble_eq_true rfl⟩ (aX11_plan (kC_ok (by decide : 1 < 5) (Or.inl rfl)) (show kok (kC B 3 false ν) from kC_ok (by decide : 3 < 5) (Or.inl rfl)) (e11 _ (by decide : 1 < 5)) f1) (by rw [← h0]; exact AL_sub AL_NN 211 4 rfl) (e11 _ (by decide : 1 < 5)) (Nat.le_of_ble_eq_true rfl) rfl rfl (Nat.le_of_ble_eq_true rfl) rfl dL_683 (fun _ => ?_)
  refine g_C (C' := Cs 3) rfl ?_
  show Gq z (kC B 3 false ν) 4 Q (Cs 3) 686 μ' (lvL B false b (Int32.ofNat j)) [.int r]
  refine l_CM ?_
  refine r_aloadn (okM hg (by decide : 3 < 5) (Or.inl rfl)) 1 rfl rfl dL_686 ?_
  refine l_arg (okM hg (by decide : 3 < 5) (Or.inl rfl)) hX (nFM h0 hb) rfl rfl hj hL 1 (by decide) (y := 1) (by decide) (by decide) dL_687 dL_688 dL_689 dL_690 dL_691 ?_
  refine l_arg (okM hg (by decide : 3 < 5) (Or.inl rfl)) hX (nFM h0 hb) rfl rfl hj hL 2 (by decide) (y := 2) (by decide) (by decide) dL_692 dL_693 dL_694 dL_695 dL_696 ?_
  refine r_callV (okM hg (by decide : 3 < 5) (Or.inl rfl)) (As := [.int (xs (j + 1)), .int (xs (j + 2))]) (rest := [.int r]) (st1 := [.int r, .int r]) (c := 12) (i := 0) (TT := T12) (N := 75) MK_X12_plan rfl wi_X12_plan we_X12_plan wm_L_88 (Cs_le _ (by decide : 3 < 5)) (cX12_plan (kM_ok (by decide : 3 < 5) (Or.inl rfl)) e12 f2) e12 (Nat.le_of_ble_eq_true rfl) rfl rfl (Nat.le_of_ble_eq_true rfl) rfl dL_697 (fun _ => ?_)
  refine l_MC (by decide : 3 < 5) hz ?_
  exact r_iceq (okC hg (by decide : 3 < 5) (Or.inl rfl)) (tgt := 1457) (by decide) dL_700 (fun _ => kk) (fun q => absurd rfl q)
set_option maxRecDepth 20000 in
set_option maxHeartbeats 2000000 in
theorem w_bring {z : Zx} {B : Bx} {b L j F : Nat} {xs : Nat → Int32} {Q : State → Prop} {μ ν μ' ν' : Mm} {r : Int32} {σ : Nat} {v : Bool} {C : Nat × Nat} (hg : Og z B code 4 "RopeDanceLaw" (some .boolean) 13 TL) (hX : va_X b L xs (zs z) (zs z).heap) (hb : b < (zs z).heap.size) (hj : j + 6 ≤ L) (hL : L ≤ 3072) (hs : σ < 5) (hv : v = vσ σ ∨ σ = 0) (hC : C.1 ≤ 600000 ∧ C.2 ≤ 7302250) (he : (4, 0) ∈ Lc σ) (f1 : fX11_bring F (xs (j + 1)) (xs (j + 2)) (xs (j + 3)) μ = some (r, μ')) (f2 : fX12_bring F (xs (j + 1)) (xs (j + 2)) (xs (j + 3)) ν = some (r, ν')) (hz : nz σ μ') (kk : Gq z (kC B σ v ν') 4 Q (C) 1457 μ' (lvL B v b (Int32.ofNat j)) []) : Gq z (kC B σ v ν) 4 Q (C) 705 μ (lvL B v b (Int32.ofNat j)) [] := by
  have h0 := hg.2.2.2.2.2.2.2.2.2.1
  refine r_aloadn (okC hg hs hv) 2 rfl rfl dL_705 ?_
  refine l_arg (okC hg hs hv) hX (nFC h0 hb) rfl rfl hj hL 1 (by decide) (y := 1) (by decide) (by decide) dL_706 dL_707 dL_708 dL_709 dL_710 ?_
  refine l_arg (okC hg hs hv) hX (nFC h0 hb) rfl rfl hj hL 2 (by decide) (y := 2) (by decide) (by decide) dL_711 dL_712 dL_713 dL_714 dL_715 ?_
  refine l_arg (okC hg hs hv) hX (nFC h0 hb) rfl rfl hj hL 3 (by decide) (y := 3) (by decide) (by decide) dL_716 dL_717 dL_718 dL_719 dL_720 ?_
  refine r_callV (okC hg hs hv) (As := [.int (xs (j + 1)), .int (xs (j + 2)), .int (xs (j + 3))]) (rest := []) (st1 := [.int r]) (c := 11) (i := 0) (TT := T11) (N := 12) MK_X11_bring rfl wi_X11_bring we_X11_bring wm_L_89 hC (cX11_bring (kC_ok hs hv) (e11 _ hs) he f1) (e11 _ hs) (Nat.le_of_ble_eq_true rfl) rfl rfl (Nat.le_of_ble_eq_true rfl) rfl dL_721 (fun _ => ?_)
  refine l_CM ?_
  refine r_aloadn (okM hg hs hv) 1 rfl rfl dL_724 ?_
  refine l_arg (okM hg hs hv) hX (nFM h0 hb) rfl rfl hj hL 1 (by decide) (y := 1) (by decide) (by decide) dL_725 dL_726 dL_727 dL_728 dL_729 ?_
  refine l_arg (okM hg hs hv) hX (nFM h0 hb) rfl rfl hj hL 2 (by decide) (y := 2) (by decide) (by decide) dL_730 dL_731 dL_732 dL_733 dL_734 ?_
  refine l_arg (okM hg hs hv) hX (nFM h0 hb) rfl rfl hj hL 3 (by decide) (y := 3) (by decide) (by decide) dL_735 dL_736 dL_737 dL_738 dL_739 ?_
  refine r_callV (okM hg hs hv) (As := [.int (xs (j + 1)), .int (xs (j + 2)), .int (xs (j + 3))]) (rest := [.int r]) (st1 := [.int r, .int r]) (c := 12) (i := 0) (TT := T12) (N := 75) MK_X12_bring rfl wi_X12_bring we_X12_bring wm_L_92 hC (cX12_bring (kM_ok hs hv) e12 f2) e12 (Nat.le_of_ble_eq_true rfl) rfl rfl (Nat.le_of_ble_eq_true rfl) rfl dL_740 (fun _ => ?_)
  refine l_MC hs hz ?_
  exact r_iceq (okC hg hs hv) (tgt := 1457) (by decide) dL_743 (fun _ => kk) (fun q => absurd rfl q)
set_option maxRecDepth 20000 in
set_option maxHeartbeats 2000000 in
theorem wn_bring {z : Zx} {B : Bx} {b L j F : Nat} {xs : Nat → Int32} {Q : State → Prop} {μ ν μ' ν' : Mm} {r : Int32} {σ : Nat} {v : Bool} {C : Nat × Nat} (hg : Og z B code 4 "RopeDanceLaw" (some .boolean) 13 TL) (hX : va_X b L xs (zs z) (zs z).heap) (hb : b < (zs z).heap.size) (hj : j + 6 ≤ L) (hL : L ≤ 3072) (hs : σ < 5) (hv : v = vσ σ ∨ σ = 0) (hC : C.1 ≤ 600000 ∧ C.2 ≤ 7302250) (f1 : fX11_bring_n F (xs (j + 1)) (xs (j + 2)) (xs (j + 3)) μ = some (r, μ')) (f2 : fX12_bring F (xs (j + 1)) (xs (j + 2)) (xs (j + 3)) ν = some (r, ν')) (hz : nz σ μ') (kk : Gq z (kC B σ v ν') 4 Q (C) 1457 μ' (lvL B v b (Int32.ofNat j)) []) : Gq z (kC B σ v ν) 4 Q (C) 705 μ (lvL B v b (Int32.ofNat j)) [] := by
  have h0 := hg.2.2.2.2.2.2.2.2.2.1
  refine r_aloadn (okC hg hs hv) 2 rfl rfl dL_705 ?_
  refine l_arg (okC hg hs hv) hX (nFC h0 hb) rfl rfl hj hL 1 (by decide) (y := 1) (by decide) (by decide) dL_706 dL_707 dL_708 dL_709 dL_710 ?_
  refine l_arg (okC hg hs hv) hX (nFC h0 hb) rfl rfl hj hL 2 (by decide) (y := 2) (by decide) (by decide) dL_711 dL_712 dL_713 dL_714 dL_715 ?_
  refine l_arg (okC hg hs hv) hX (nFC h0 hb) rfl rfl hj hL 3 (by decide) (y := 3) (by decide) (by decide) dL_716 dL_717 dL_718 dL_719 dL_720 ?_
  refine r_callV (okC hg hs hv) (As := [.int (xs (j + 1)), .int (xs (j + 2)), .int (xs (j + 3))]) (rest := []) (st1 := [.int r]) (c := 11) (i := 0) (TT := T11) (N := 12) MK_X11_bring rfl wi_X11_bring we_X11_bring wm_L_89 hC (nX11_bring (kC_ok hs hv) (e11 _ hs) f1) (e11 _ hs) (Nat.le_of_ble_eq_true rfl) rfl rfl (Nat.le_of_ble_eq_true rfl) rfl dL_721 (fun _ => ?_)
  refine l_CM ?_
  refine r_aloadn (okM hg hs hv) 1 rfl rfl dL_724 ?_
  refine l_arg (okM hg hs hv) hX (nFM h0 hb) rfl rfl hj hL 1 (by decide) (y := 1) (by decide) (by decide) dL_725 dL_726 dL_727 dL_728 dL_729 ?_
  refine l_arg (okM hg hs hv) hX (nFM h0 hb) rfl rfl hj hL 2 (by decide) (y := 2) (by decide) (by decide) dL_730 dL_731 dL_732 dL_733 dL_734 ?_
  refine l_arg (okM hg hs hv) hX (nFM h0 hb) rfl rfl hj hL 3 (by decide) (y := 3) (by decide) (by decide) dL_735 dL_736 dL_737 dL_738 dL_739 ?_
  refine r_callV (okM hg hs hv) (As := [.int (xs (j + 1)), .int (xs (j + 2)), .int (xs (j + 3))]) (rest := [.int r]) (st1 := [.int r, .int r]) (c := 12) (i := 0) (TT := T12) (N := 75) MK_X12_bring rfl wi_X12_bring we_X12_bring wm_L_92 hC (cX12_bring (kM_ok hs hv) e12 f2) e12 (Nat.le_of_ble_eq_true rfl) rfl rfl (Nat.le_of_ble_eq_true rfl) rfl dL_740 (fun _ => ?_)
  refine l_MC hs hz ?_
  exact r_iceq (okC hg hs hv) (tgt := 1457) (by decide) dL_743 (fun _ => kk) (fun q => absurd rfl q)
set_option maxRecDepth 20000 in
set_option maxHeartbeats 2000000 in
theorem wa0_bring {z : Zx} {B : Bx} {b L j F : Nat} {xs : Nat → Int32} {Q : State → Prop} {μ ν μ' ν' : Mm} {r : Int32} (hg : Og z B code 4 "RopeDanceLaw" (some .boolean) 13 TL) (hX : va_X b L xs (zs z) (zs z).heap) (hb : b < (zs z).heap.size) (hj : j + 6 ≤ L) (hL : L ≤ 3072) (f1 : fX11_bring_a F (xs (j + 1)) (xs (j + 2)) (xs (j + 3)) μ = some (r, μ')) (f2 : fX12_bring F (xs (j + 1)) (xs (j + 2)) (xs (j + 3)) ν = some (r, ν')) (hz : nz 2 μ') (kk : Gq z (kC B 2 true ν') 4 Q (Cs 2) 1457 μ' (lvL B true b (Int32.ofNat j)) []) : Gq z (kC B 0 true ν) 4 Q (Cs 0) 705 μ (lvL B true b (Int32.ofNat j)) [] := by
  have h0 := hg.2.2.2.2.2.2.2.2.2.1
  refine r_aloadn (okC hg (by decide : 0 < 5) (Or.inr rfl)) 2 rfl rfl dL_705 ?_
  refine l_arg (okC hg (by decide : 0 < 5) (Or.inr rfl)) hX (nFC h0 hb) rfl rfl hj hL 1 (by decide) (y := 1) (by decide) (by decide) dL_706 dL_707 dL_708 dL_709 dL_710 ?_
  refine l_arg (okC hg (by decide : 0 < 5) (Or.inr rfl)) hX (nFC h0 hb) rfl rfl hj hL 2 (by decide) (y := 2) (by decide) (by decide) dL_711 dL_712 dL_713 dL_714 dL_715 ?_
  refine l_arg (okC hg (by decide : 0 < 5) (Or.inr rfl)) hX (nFC h0 hb) rfl rfl hj hL 3 (by decide) (y := 3) (by decide) (by decide) dL_716 dL_717 dL_718 dL_719 dL_720 ?_
  refine r_callVa (k := kB B (ad true (b0 B)) (roC B (ad true (b0 B)) Lm ν)) (L := Lc 0) (N := nS) (L' := lX4 (Lc 0)) (T1 := (4, 31925)) (okC hg (by decide : 0 < 5) (Or.inr rfl)) (oc_of hg) (As := [.int (xs (j + 1)), .int (xs (j + 2)), .int (xs (j + 3))]) (rest := []) (st1 := [.int r]) (c := 11) (i := 0) (TT := T11) (N2 := 12) MK_X11_bring rfl wi_X11_bring we_X11_bring wm_L_89 ⟨Nat.le_of_ble_eq_true rfl, Nat.le_of_ble_eq_true rfl⟩ (aX11_bring (kC_ok (by decide : 0 < 5) (Or.inr rfl)) (show kok (kC B 2 true ν) from kC_ok (by decide : 2 < 5) (Or.inl rfl)) (e11 _ (by decide : 0 < 5)) f1) (by rw [← h0]; exact AL_sub AL_NN 208 4 rfl) (e11 _ (by decide : 0 < 5)) (Nat.le_of_ble_eq_true rfl) rfl rfl (Nat.le_of_ble_eq_true rfl) rfl dL_721 (fun _ => ?_)
  refine g_C (C' := Cs 2) rfl ?_
  show Gq z (kC B 2 true ν) 4 Q (Cs 2) 724 μ' (lvL B true b (Int32.ofNat j)) [.int r]
  refine l_CM ?_
  refine r_aloadn (okM hg (by decide : 2 < 5) (Or.inl rfl)) 1 rfl rfl dL_724 ?_
  refine l_arg (okM hg (by decide : 2 < 5) (Or.inl rfl)) hX (nFM h0 hb) rfl rfl hj hL 1 (by decide) (y := 1) (by decide) (by decide) dL_725 dL_726 dL_727 dL_728 dL_729 ?_
  refine l_arg (okM hg (by decide : 2 < 5) (Or.inl rfl)) hX (nFM h0 hb) rfl rfl hj hL 2 (by decide) (y := 2) (by decide) (by decide) dL_730 dL_731 dL_732 dL_733 dL_734 ?_
  refine l_arg (okM hg (by decide : 2 < 5) (Or.inl rfl)) hX (nFM h0 hb) rfl rfl hj hL 3 (by decide) (y := 3) (by decide) (by decide) dL_735 dL_736 dL_737 dL_738 dL_739 ?_
  refine r_callV (okM hg (by decide : 2 < 5) (Or.inl rfl)) (As := [.int (xs (j + 1)), .int (xs (j + 2)), .int (xs (j + 3))]) (rest := [.int r]) (st1 := [.int r, .int r]) (c := 12) (i := 0) (TT := T12) (N := 75) MK_X12_bring rfl wi_X12_bring we_X12_bring wm_L_92 (Cs_le _ (by decide : 2 < 5)) (cX12_bring (kM_ok (by decide : 2 < 5) (Or.inl rfl)) e12 f2) e12 (Nat.le_of_ble_eq_true rfl) rfl rfl (Nat.le_of_ble_eq_true rfl) rfl dL_740 (fun _ => ?_)
  refine l_MC (by decide : 2 < 5) hz ?_
  exact r_iceq (okC hg (by decide : 2 < 5) (Or.inl rfl)) (tgt := 1457) (by decide) dL_743 (fun _ => kk) (fun q => absurd rfl q)
set_option maxRecDepth 20000 in
set_option maxHeartbeats 2000000 in
theorem wa1_bring {z : Zx} {B : Bx} {b L j F : Nat} {xs : Nat → Int32} {Q : State → Prop} {μ ν μ' ν' : Mm} {r : Int32} (hg : Og z B code 4 "RopeDanceLaw" (some .boolean) 13 TL) (hX : va_X b L xs (zs z) (zs z).heap) (hb : b < (zs z).heap.size) (hj : j + 6 ≤ L) (hL : L ≤ 3072) (f1 : fX11_bring_a F (xs (j + 1)) (xs (j + 2)) (xs (j + 3)) μ = some (r, μ')) (f2 : fX12_bring F (xs (j + 1)) (xs (j + 2)) (xs (j + 3)) ν = some (r, ν')) (hz : nz 3 μ') (kk : Gq z (kC B 3 false ν') 4 Q (Cs 3) 1457 μ' (lvL B false b (Int32.ofNat j)) []) : Gq z (kC B 1 false ν) 4 Q (Cs 1) 705 μ (lvL B false b (Int32.ofNat j)) [] := by
  have h0 := hg.2.2.2.2.2.2.2.2.2.1
  refine r_aloadn (okC hg (by decide : 1 < 5) (Or.inl rfl)) 2 rfl rfl dL_705 ?_
  refine l_arg (okC hg (by decide : 1 < 5) (Or.inl rfl)) hX (nFC h0 hb) rfl rfl hj hL 1 (by decide) (y := 1) (by decide) (by decide) dL_706 dL_707 dL_708 dL_709 dL_710 ?_
  refine l_arg (okC hg (by decide : 1 < 5) (Or.inl rfl)) hX (nFC h0 hb) rfl rfl hj hL 2 (by decide) (y := 2) (by decide) (by decide) dL_711 dL_712 dL_713 dL_714 dL_715 ?_
  refine l_arg (okC hg (by decide : 1 < 5) (Or.inl rfl)) hX (nFC h0 hb) rfl rfl hj hL 3 (by decide) (y := 3) (by decide) (by decide) dL_716 dL_717 dL_718 dL_719 dL_720 ?_
  refine r_callVa (k := kB B (ad false (b0 B)) (roC B (ad false (b0 B)) Lm ν)) (L := Lc 1) (N := nS) (L' := lX4 (Lc 1)) (T1 := (4, 31925)) (okC hg (by decide : 1 < 5) (Or.inl rfl)) (oc_of hg) (As := [.int (xs (j + 1)), .int (xs (j + 2)), .int (xs (j + 3))]) (rest := []) (st1 := [.int r]) (c := 11) (i := 0) (TT := T11) (N2 := 12) MK_X11_bring rfl wi_X11_bring we_X11_bring wm_L_89 ⟨Nat.le_of_ble_eq_true rfl, Nat.le_of_ble_eq_true rfl⟩ (aX11_bring (kC_ok (by decide : 1 < 5) (Or.inl rfl)) (show kok (kC B 3 false ν) from kC_ok (by decide : 3 < 5) (Or.inl rfl)) (e11 _ (by decide : 1 < 5)) f1) (by rw [← h0]; exact AL_sub AL_NN 211 4 rfl) (e11 _ (by decide : 1 < 5)) (Nat.le_of_ble_eq_true rfl) rfl rfl (Nat.le_of_ble_eq_true rfl) rfl dL_721 (fun _ => ?_)
  refine g_C (C' := Cs 3) rfl ?_
  show Gq z (kC B 3 false ν) 4 Q (Cs 3) 724 μ' (lvL B false b (Int32.ofNat j)) [.int r]
  refine l_CM ?_
  refine r_aloadn (okM hg (by decide : 3 < 5) (Or.inl rfl)) 1 rfl rfl dL_724 ?_
  refine l_arg (okM hg (by decide : 3 < 5) (Or.inl rfl)) hX (nFM h0 hb) rfl rfl hj hL 1 (by decide) (y := 1) (by decide) (by decide) dL_725 dL_726 dL_727 dL_728 dL_729 ?_
  refine l_arg (okM hg (by decide : 3 < 5) (Or.inl rfl)) hX (nFM h0 hb) rfl rfl hj hL 2 (by decide) (y := 2) (by decide) (by decide) dL_730 dL_731 dL_732 dL_733 dL_734 ?_
  refine l_arg (okM hg (by decide : 3 < 5) (Or.inl rfl)) hX (nFM h0 hb) rfl rfl hj hL 3 (by decide) (y := 3) (by decide) (by decide) dL_735 dL_736 dL_737 dL_738 dL_739 ?_
  refine r_callV (okM hg (by decide : 3 < 5) (Or.inl rfl)) (As := [.int (xs (j + 1)), .int (xs (j + 2)), .int (xs (j + 3))]) (rest := [.int r]) (st1 := [.int r, .int r]) (c := 12) (i := 0) (TT := T12) (N := 75) MK_X12_bring rfl wi_X12_bring we_X12_bring wm_L_92 (Cs_le _ (by decide : 3 < 5)) (cX12_bring (kM_ok (by decide : 3 < 5) (Or.inl rfl)) e12 f2) e12 (Nat.le_of_ble_eq_true rfl) rfl rfl (Nat.le_of_ble_eq_true rfl) rfl dL_740 (fun _ => ?_)
  refine l_MC (by decide : 3 < 5) hz ?_
  exact r_iceq (okC hg (by decide : 3 < 5) (Or.inl rfl)) (tgt := 1457) (by decide) dL_743 (fun _ => kk) (fun q => absurd rfl q)
set_option maxRecDepth 20000 in
set_option maxHeartbeats 2000000 in
theorem w_reach {z : Zx} {B : Bx} {b L j F : Nat} {xs : Nat → Int32} {Q : State → Prop} {μ ν μ' ν' : Mm} {r : Int32} {σ : Nat} {v : Bool} {C : Nat × Nat} (hg : Og z B code 4 "RopeDanceLaw" (some .boolean) 13 TL) (hX : va_X b L xs (zs z) (zs z).heap) (hb : b < (zs z).heap.size) (hj : j + 6 ≤ L) (hL : L ≤ 3072) (hs : σ < 5) (hv : v = vσ σ ∨ σ = 0) (hC : C.1 ≤ 600000 ∧ C.2 ≤ 7302250) (he : (4, 0) ∈ Lc σ) (f1 : fX11_reach F (xs (j + 1)) μ = some (r, μ')) (f2 : fX12_reach F (xs (j + 1)) ν = some (r, ν')) (hz : nz σ μ') (kk : Gq z (kC B σ v ν') 4 Q (C) 1457 μ' (lvL B v b (Int32.ofNat j)) []) : Gq z (kC B σ v ν) 4 Q (C) 748 μ (lvL B v b (Int32.ofNat j)) [] := by
  have h0 := hg.2.2.2.2.2.2.2.2.2.1
  refine r_aloadn (okC hg hs hv) 2 rfl rfl dL_748 ?_
  refine l_arg (okC hg hs hv) hX (nFC h0 hb) rfl rfl hj hL 1 (by decide) (y := 1) (by decide) (by decide) dL_749 dL_750 dL_751 dL_752 dL_753 ?_
  refine r_callV (okC hg hs hv) (As := [.int (xs (j + 1))]) (rest := []) (st1 := [.int r]) (c := 11) (i := 0) (TT := T11) (N := 12) MK_X11_reach rfl wi_X11_reach we_X11_reach wm_L_93 hC (cX11_reach (kC_ok hs hv) (e11 _ hs) he f1) (e11 _ hs) (Nat.le_of_ble_eq_true rfl) rfl rfl (Nat.le_of_ble_eq_true rfl) rfl dL_754 (fun _ => ?_)
  refine l_CM ?_
  refine r_aloadn (okM hg hs hv) 1 rfl rfl dL_757 ?_
  refine l_arg (okM hg hs hv) hX (nFM h0 hb) rfl rfl hj hL 1 (by decide) (y := 1) (by decide) (by decide) dL_758 dL_759 dL_760 dL_761 dL_762 ?_
  refine r_callV (okM hg hs hv) (As := [.int (xs (j + 1))]) (rest := [.int r]) (st1 := [.int r, .int r]) (c := 12) (i := 0) (TT := T12) (N := 75) MK_X12_reach rfl wi_X12_reach we_X12_reach wm_L_96 hC (cX12_reach (kM_ok hs hv) e12 f2) e12 (Nat.le_of_ble_eq_true rfl) rfl rfl (Nat.le_of_ble_eq_true rfl) rfl dL_763 (fun _ => ?_)
  refine l_MC hs hz ?_
  exact r_iceq (okC hg hs hv) (tgt := 1457) (by decide) dL_766 (fun _ => kk) (fun q => absurd rfl q)
set_option maxRecDepth 20000 in
set_option maxHeartbeats 2000000 in
theorem wn_reach {z : Zx} {B : Bx} {b L j F : Nat} {xs : Nat → Int32} {Q : State → Prop} {μ ν μ' ν' : Mm} {r : Int32} {σ : Nat} {v : Bool} {C : Nat × Nat} (hg : Og z B code 4 "RopeDanceLaw" (some .boolean) 13 TL) (hX : va_X b L xs (zs z) (zs z).heap) (hb : b < (zs z).heap.size) (hj : j + 6 ≤ L) (hL : L ≤ 3072) (hs : σ < 5) (hv : v = vσ σ ∨ σ = 0) (hC : C.1 ≤ 600000 ∧ C.2 ≤ 7302250) (f1 : fX11_reach_n F (xs (j + 1)) μ = some (r, μ')) (f2 : fX12_reach F (xs (j + 1)) ν = some (r, ν')) (hz : nz σ μ') (kk : Gq z (kC B σ v ν') 4 Q (C) 1457 μ' (lvL B v b (Int32.ofNat j)) []) : Gq z (kC B σ v ν) 4 Q (C) 748 μ (lvL B v b (Int32.ofNat j)) [] := by
  have h0 := hg.2.2.2.2.2.2.2.2.2.1
  refine r_aloadn (okC hg hs hv) 2 rfl rfl dL_748 ?_
  refine l_arg (okC hg hs hv) hX (nFC h0 hb) rfl rfl hj hL 1 (by decide) (y := 1) (by decide) (by decide) dL_749 dL_750 dL_751 dL_752 dL_753 ?_
  refine r_callV (okC hg hs hv) (As := [.int (xs (j + 1))]) (rest := []) (st1 := [.int r]) (c := 11) (i := 0) (TT := T11) (N := 12) MK_X11_reach rfl wi_X11_reach we_X11_reach wm_L_93 hC (nX11_reach (kC_ok hs hv) (e11 _ hs) f1) (e11 _ hs) (Nat.le_of_ble_eq_true rfl) rfl rfl (Nat.le_of_ble_eq_true rfl) rfl dL_754 (fun _ => ?_)
  refine l_CM ?_
  refine r_aloadn (okM hg hs hv) 1 rfl rfl dL_757 ?_
  refine l_arg (okM hg hs hv) hX (nFM h0 hb) rfl rfl hj hL 1 (by decide) (y := 1) (by decide) (by decide) dL_758 dL_759 dL_760 dL_761 dL_762 ?_
  refine r_callV (okM hg hs hv) (As := [.int (xs (j + 1))]) (rest := [.int r]) (st1 := [.int r, .int r]) (c := 12) (i := 0) (TT := T12) (N := 75) MK_X12_reach rfl wi_X12_reach we_X12_reach wm_L_96 hC (cX12_reach (kM_ok hs hv) e12 f2) e12 (Nat.le_of_ble_eq_true rfl) rfl rfl (Nat.le_of_ble_eq_true rfl) rfl dL_763 (fun _ => ?_)
  refine l_MC hs hz ?_
  exact r_iceq (okC hg hs hv) (tgt := 1457) (by decide) dL_766 (fun _ => kk) (fun q => absurd rfl q)
set_option maxRecDepth 20000 in
set_option maxHeartbeats 2000000 in
theorem wa0_reach {z : Zx} {B : Bx} {b L j F : Nat} {xs : Nat → Int32} {Q : State → Prop} {μ ν μ' ν' : Mm} {r : Int32} (hg : Og z B code 4 "RopeDanceLaw" (some .boolean) 13 TL) (hX : va_X b L xs (zs z) (zs z).heap) (hb : b < (zs z).heap.size) (hj : j + 6 ≤ L) (hL : L ≤ 3072) (f1 : fX11_reach_a F (xs (j + 1)) μ = some (r, μ')) (f2 : fX12_reach F (xs (j + 1)) ν = some (r, ν')) (hz : nz 2 μ') (kk : Gq z (kC B 2 true ν') 4 Q (Cs 2) 1457 μ' (lvL B true b (Int32.ofNat j)) []) : Gq z (kC B 0 true ν) 4 Q (Cs 0) 748 μ (lvL B true b (Int32.ofNat j)) [] := by
  have h0 := hg.2.2.2.2.2.2.2.2.2.1
  refine r_aloadn (okC hg (by decide : 0 < 5) (Or.inr rfl)) 2 rfl rfl dL_748 ?_
  refine l_arg (okC hg (by decide : 0 < 5) (Or.inr rfl)) hX (nFC h0 hb) rfl rfl hj hL 1 (by decide) (y := 1) (by decide) (by decide) dL_749 dL_750 dL_751 dL_752 dL_753 ?_
  refine r_callVa (k := kB B (ad true (b0 B)) (roC B (ad true (b0 B)) Lm ν)) (L := Lc 0) (N := nS) (L' := lX4 (Lc 0)) (T1 := (4, 31925)) (okC hg (by decide : 0 < 5) (Or.inr rfl)) (oc_of hg) (As := [.int (xs (j + 1))]) (rest := []) (st1 := [.int r]) (c := 11) (i := 0) (TT := T11) (N2 := 12) MK_X11_reach rfl wi_X11_reach we_X11_reach wm_L_93 ⟨Nat.le_of_ble_eq_true rfl, Nat.le_of_ble_eq_true rfl⟩ (aX11_reach (kC_ok (by decide : 0 < 5) (Or.inr rfl)) (show kok (kC B 2 true ν) from kC_ok (by decide : 2 < 5) (Or.inl rfl)) (e11 _ (by decide : 0 < 5)) f1) (by rw [← h0]; exact AL_sub AL_NN 208 4 rfl) (e11 _ (by decide : 0 < 5)) (Nat.le_of_ble_eq_true rfl) rfl rfl (Nat.le_of_ble_eq_true rfl) rfl dL_754 (fun _ => ?_)
  refine g_C (C' := Cs 2) rfl ?_
  show Gq z (kC B 2 true ν) 4 Q (Cs 2) 757 μ' (lvL B true b (Int32.ofNat j)) [.int r]
  refine l_CM ?_
  refine r_aloadn (okM hg (by decide : 2 < 5) (Or.inl rfl)) 1 rfl rfl dL_757 ?_
  refine l_arg (okM hg (by decide : 2 < 5) (Or.inl rfl)) hX (nFM h0 hb) rfl rfl hj hL 1 (by decide) (y := 1) (by decide) (by decide) dL_758 dL_759 dL_760 dL_761 dL_762 ?_
  refine r_callV (okM hg (by decide : 2 < 5) (Or.inl rfl)) (As := [.int (xs (j + 1))]) (rest := [.int r]) (st1 := [.int r, .int r]) (c := 12) (i := 0) (TT := T12) (N := 75) MK_X12_reach rfl wi_X12_reach we_X12_reach wm_L_96 (Cs_le _ (by decide : 2 < 5)) (cX12_reach (kM_ok (by decide : 2 < 5) (Or.inl rfl)) e12 f2) e12 (Nat.le_of_ble_eq_true rfl) rfl rfl (Nat.le_of_ble_eq_true rfl) rfl dL_763 (fun _ => ?_)
  refine l_MC (by decide : 2 < 5) hz ?_
  exact r_iceq (okC hg (by decide : 2 < 5) (Or.inl rfl)) (tgt := 1457) (by decide) dL_766 (fun _ => kk) (fun q => absurd rfl q)
set_option maxRecDepth 20000 in
set_option maxHeartbeats 2000000 in
theorem wa1_reach {z : Zx} {B : Bx} {b L j F : Nat} {xs : Nat → Int32} {Q : State → Prop} {μ ν μ' ν' : Mm} {r : Int32} (hg : Og z B code 4 "RopeDanceLaw" (some .boolean) 13 TL) (hX : va_X b L xs (zs z) (zs z).heap) (hb : b < (zs z).heap.size) (hj : j + 6 ≤ L) (hL : L ≤ 3072) (f1 : fX11_reach_a F (xs (j + 1)) μ = some (r, μ')) (f2 : fX12_reach F (xs (j + 1)) ν = some (r, ν')) (hz : nz 3 μ') (kk : Gq z (kC B 3 false ν') 4 Q (Cs 3) 1457 μ' (lvL B false b (Int32.ofNat j)) []) : Gq z (kC B 1 false ν) 4 Q (Cs 1) 748 μ (lvL B false b (Int32.ofNat j)) [] := by
  have h0 := hg.2.2.2.2.2.2.2.2.2.1
  refine r_aloadn (okC hg (by decide : 1 < 5) (Or.inl rfl)) 2 rfl rfl dL_748 ?_
  refine l_arg (okC hg (by decide : 1 < 5) (Or.inl rfl)) hX (nFC h0 hb) rfl rfl hj hL 1 (by decide) (y := 1) (by decide) (by decide) dL_749 dL_750 dL_751 dL_752 dL_753 ?_
  refine r_callVa (k := kB B (ad false (b0 B)) (roC B (ad false (b0 B)) Lm ν)) (L := Lc 1) (N := nS) (L' := lX4 (Lc 1)) (T1 := (4, 31925)) (okC hg (by decide : 1 < 5) (Or.inl rfl)) (oc_of hg) (As := [.int (xs (j + 1))]) (rest := []) (st1 := [.int r]) (c := 11) (i := 0) (TT := T11) (N2 := 12) MK_X11_reach rfl wi_X11_reach we_X11_reach wm_L_93 ⟨Nat.le_of_ble_eq_true rfl, Nat.le_of_ble_eq_true rfl⟩ (aX11_reach (kC_ok (by decide : 1 < 5) (Or.inl rfl)) (show kok (kC B 3 false ν) from kC_ok (by decide : 3 < 5) (Or.inl rfl)) (e11 _ (by decide : 1 < 5)) f1) (by rw [← h0]; exact AL_sub AL_NN 211 4 rfl) (e11 _ (by decide : 1 < 5)) (Nat.le_of_ble_eq_true rfl) rfl rfl (Nat.le_of_ble_eq_true rfl) rfl dL_754 (fun _ => ?_)
  refine g_C (C' := Cs 3) rfl ?_
  show Gq z (kC B 3 false ν) 4 Q (Cs 3) 757 μ' (lvL B false b (Int32.ofNat j)) [.int r]
  refine l_CM ?_
  refine r_aloadn (okM hg (by decide : 3 < 5) (Or.inl rfl)) 1 rfl rfl dL_757 ?_
  refine l_arg (okM hg (by decide : 3 < 5) (Or.inl rfl)) hX (nFM h0 hb) rfl rfl hj hL 1 (by decide) (y := 1) (by decide) (by decide) dL_758 dL_759 dL_760 dL_761 dL_762 ?_
  refine r_callV (okM hg (by decide : 3 < 5) (Or.inl rfl)) (As := [.int (xs (j + 1))]) (rest := [.int r]) (st1 := [.int r, .int r]) (c := 12) (i := 0) (TT := T12) (N := 75) MK_X12_reach rfl wi_X12_reach we_X12_reach wm_L_96 (Cs_le _ (by decide : 3 < 5)) (cX12_reach (kM_ok (by decide : 3 < 5) (Or.inl rfl)) e12 f2) e12 (Nat.le_of_ble_eq_true rfl) rfl rfl (Nat.le_of_ble_eq_true rfl) rfl dL_763 (fun _ => ?_)
  refine l_MC (by decide : 3 < 5) hz ?_
  exact r_iceq (okC hg (by decide : 3 < 5) (Or.inl rfl)) (tgt := 1457) (by decide) dL_766 (fun _ => kk) (fun q => absurd rfl q)
set_option maxRecDepth 20000 in
set_option maxHeartbeats 2000000 in
theorem w_alike {z : Zx} {B : Bx} {b L j F : Nat} {xs : Nat → Int32} {Q : State → Prop} {μ ν μ' ν' : Mm} {r : Int32} {σ : Nat} {v : Bool} {C : Nat × Nat} (hg : Og z B code 4 "RopeDanceLaw" (some .boolean) 13 TL) (hX : va_X b L xs (zs z) (zs z).heap) (hb : b < (zs z).heap.size) (hj : j + 6 ≤ L) (hL : L ≤ 3072) (hs : σ < 5) (hv : v = vσ σ ∨ σ = 0) (hC : C.1 ≤ 600000 ∧ C.2 ≤ 7302250) (f1 : fX11_alike F (xs (j + 1)) (xs (j + 2)) μ = some (r, μ')) (f2 : fX12_alike F (xs (j + 1)) (xs (j + 2)) ν = some (r, ν')) (hz : nz σ μ') (kk : Gq z (kC B σ v ν') 4 Q (C) 1457 μ' (lvL B v b (Int32.ofNat j)) []) : Gq z (kC B σ v ν) 4 Q (C) 771 μ (lvL B v b (Int32.ofNat j)) [] := by
  have h0 := hg.2.2.2.2.2.2.2.2.2.1
  refine r_aloadn (okC hg hs hv) 2 rfl rfl dL_771 ?_
  refine l_arg (okC hg hs hv) hX (nFC h0 hb) rfl rfl hj hL 1 (by decide) (y := 1) (by decide) (by decide) dL_772 dL_773 dL_774 dL_775 dL_776 ?_
  refine l_arg (okC hg hs hv) hX (nFC h0 hb) rfl rfl hj hL 2 (by decide) (y := 2) (by decide) (by decide) dL_777 dL_778 dL_779 dL_780 dL_781 ?_
  refine r_callV (okC hg hs hv) (As := [.int (xs (j + 1)), .int (xs (j + 2))]) (rest := []) (st1 := [.int r]) (c := 11) (i := 0) (TT := T11) (N := 12) MK_X11_alike rfl wi_X11_alike we_X11_alike wm_L_97 hC (cX11_alike (kC_ok hs hv) (e11 _ hs) f1) (e11 _ hs) (Nat.le_of_ble_eq_true rfl) rfl rfl (Nat.le_of_ble_eq_true rfl) rfl dL_782 (fun _ => ?_)
  refine l_CM ?_
  refine r_aloadn (okM hg hs hv) 1 rfl rfl dL_785 ?_
  refine l_arg (okM hg hs hv) hX (nFM h0 hb) rfl rfl hj hL 1 (by decide) (y := 1) (by decide) (by decide) dL_786 dL_787 dL_788 dL_789 dL_790 ?_
  refine l_arg (okM hg hs hv) hX (nFM h0 hb) rfl rfl hj hL 2 (by decide) (y := 2) (by decide) (by decide) dL_791 dL_792 dL_793 dL_794 dL_795 ?_
  refine r_callV (okM hg hs hv) (As := [.int (xs (j + 1)), .int (xs (j + 2))]) (rest := [.int r]) (st1 := [.int r, .int r]) (c := 12) (i := 0) (TT := T12) (N := 75) MK_X12_alike rfl wi_X12_alike we_X12_alike wm_L_100 hC (cX12_alike (kM_ok hs hv) e12 f2) e12 (Nat.le_of_ble_eq_true rfl) rfl rfl (Nat.le_of_ble_eq_true rfl) rfl dL_796 (fun _ => ?_)
  refine l_MC hs hz ?_
  exact r_iceq (okC hg hs hv) (tgt := 1457) (by decide) dL_799 (fun _ => kk) (fun q => absurd rfl q)
set_option maxRecDepth 20000 in
set_option maxHeartbeats 2000000 in
theorem w_closed {z : Zx} {B : Bx} {b L j F : Nat} {xs : Nat → Int32} {Q : State → Prop} {μ ν μ' ν' : Mm} {r : Int32} {σ : Nat} {v : Bool} {C : Nat × Nat} (hg : Og z B code 4 "RopeDanceLaw" (some .boolean) 13 TL) (hX : va_X b L xs (zs z) (zs z).heap) (hb : b < (zs z).heap.size) (hj : j + 6 ≤ L) (hL : L ≤ 3072) (hs : σ < 5) (hv : v = vσ σ ∨ σ = 0) (hC : C.1 ≤ 600000 ∧ C.2 ≤ 7302250) (f1 : fX11_closed F (xs (j + 1)) (xs (j + 2)) μ = some (r, μ')) (f2 : fX12_closed F (xs (j + 1)) (xs (j + 2)) ν = some (r, ν')) (hz : nz σ μ') (kk : Gq z (kC B σ v ν') 4 Q (C) 1457 μ' (lvL B v b (Int32.ofNat j)) []) : Gq z (kC B σ v ν) 4 Q (C) 804 μ (lvL B v b (Int32.ofNat j)) [] := by
  have h0 := hg.2.2.2.2.2.2.2.2.2.1
  refine r_aloadn (okC hg hs hv) 2 rfl rfl dL_804 ?_
  refine l_arg (okC hg hs hv) hX (nFC h0 hb) rfl rfl hj hL 1 (by decide) (y := 1) (by decide) (by decide) dL_805 dL_806 dL_807 dL_808 dL_809 ?_
  refine l_arg (okC hg hs hv) hX (nFC h0 hb) rfl rfl hj hL 2 (by decide) (y := 2) (by decide) (by decide) dL_810 dL_811 dL_812 dL_813 dL_814 ?_
  refine r_callV (okC hg hs hv) (As := [.int (xs (j + 1)), .int (xs (j + 2))]) (rest := []) (st1 := [.int r]) (c := 11) (i := 0) (TT := T11) (N := 12) MK_X11_closed rfl wi_X11_closed we_X11_closed wm_L_101 hC (cX11_closed (kC_ok hs hv) (e11 _ hs) f1) (e11 _ hs) (Nat.le_of_ble_eq_true rfl) rfl rfl (Nat.le_of_ble_eq_true rfl) rfl dL_815 (fun _ => ?_)
  refine l_CM ?_
  refine r_aloadn (okM hg hs hv) 1 rfl rfl dL_818 ?_
  refine l_arg (okM hg hs hv) hX (nFM h0 hb) rfl rfl hj hL 1 (by decide) (y := 1) (by decide) (by decide) dL_819 dL_820 dL_821 dL_822 dL_823 ?_
  refine l_arg (okM hg hs hv) hX (nFM h0 hb) rfl rfl hj hL 2 (by decide) (y := 2) (by decide) (by decide) dL_824 dL_825 dL_826 dL_827 dL_828 ?_
  refine r_callV (okM hg hs hv) (As := [.int (xs (j + 1)), .int (xs (j + 2))]) (rest := [.int r]) (st1 := [.int r, .int r]) (c := 12) (i := 0) (TT := T12) (N := 75) MK_X12_closed rfl wi_X12_closed we_X12_closed wm_L_104 hC (cX12_closed (kM_ok hs hv) e12 f2) e12 (Nat.le_of_ble_eq_true rfl) rfl rfl (Nat.le_of_ble_eq_true rfl) rfl dL_829 (fun _ => ?_)
  refine l_MC hs hz ?_
  exact r_iceq (okC hg hs hv) (tgt := 1457) (by decide) dL_832 (fun _ => kk) (fun q => absurd rfl q)
set_option maxRecDepth 20000 in
set_option maxHeartbeats 2000000 in
theorem w_colours {z : Zx} {B : Bx} {b L j F : Nat} {xs : Nat → Int32} {Q : State → Prop} {μ ν μ' ν' : Mm} {r : Int32} {σ : Nat} {v : Bool} {C : Nat × Nat} (hg : Og z B code 4 "RopeDanceLaw" (some .boolean) 13 TL) (hX : va_X b L xs (zs z) (zs z).heap) (hb : b < (zs z).heap.size) (hj : j + 6 ≤ L) (hL : L ≤ 3072) (hs : σ < 5) (hv : v = vσ σ ∨ σ = 0) (hC : C.1 ≤ 600000 ∧ C.2 ≤ 7302250) (f1 : fX11_colours F (xs (j + 1)) (xs (j + 2)) μ = some (r, μ')) (f2 : fX12_colours F (xs (j + 1)) (xs (j + 2)) ν = some (r, ν')) (hz : nz σ μ') (kk : Gq z (kC B σ v ν') 4 Q (C) 1457 μ' (lvL B v b (Int32.ofNat j)) []) : Gq z (kC B σ v ν) 4 Q (C) 837 μ (lvL B v b (Int32.ofNat j)) [] := by
  have h0 := hg.2.2.2.2.2.2.2.2.2.1
  refine r_aloadn (okC hg hs hv) 2 rfl rfl dL_837 ?_
  refine l_arg (okC hg hs hv) hX (nFC h0 hb) rfl rfl hj hL 1 (by decide) (y := 1) (by decide) (by decide) dL_838 dL_839 dL_840 dL_841 dL_842 ?_
  refine l_arg (okC hg hs hv) hX (nFC h0 hb) rfl rfl hj hL 2 (by decide) (y := 2) (by decide) (by decide) dL_843 dL_844 dL_845 dL_846 dL_847 ?_
  refine r_callV (okC hg hs hv) (As := [.int (xs (j + 1)), .int (xs (j + 2))]) (rest := []) (st1 := [.int r]) (c := 11) (i := 0) (TT := T11) (N := 12) MK_X11_colours rfl wi_X11_colours we_X11_colours wm_L_105 hC (cX11_colours (kC_ok hs hv) (e11 _ hs) f1) (e11 _ hs) (Nat.le_of_ble_eq_true rfl) rfl rfl (Nat.le_of_ble_eq_true rfl) rfl dL_848 (fun _ => ?_)
  refine l_CM ?_
  refine r_aloadn (okM hg hs hv) 1 rfl rfl dL_851 ?_
  refine l_arg (okM hg hs hv) hX (nFM h0 hb) rfl rfl hj hL 1 (by decide) (y := 1) (by decide) (by decide) dL_852 dL_853 dL_854 dL_855 dL_856 ?_
  refine l_arg (okM hg hs hv) hX (nFM h0 hb) rfl rfl hj hL 2 (by decide) (y := 2) (by decide) (by decide) dL_857 dL_858 dL_859 dL_860 dL_861 ?_
  refine r_callV (okM hg hs hv) (As := [.int (xs (j + 1)), .int (xs (j + 2))]) (rest := [.int r]) (st1 := [.int r, .int r]) (c := 12) (i := 0) (TT := T12) (N := 75) MK_X12_colours rfl wi_X12_colours we_X12_colours wm_L_108 hC (cX12_colours (kM_ok hs hv) e12 f2) e12 (Nat.le_of_ble_eq_true rfl) rfl rfl (Nat.le_of_ble_eq_true rfl) rfl dL_862 (fun _ => ?_)
  refine l_MC hs hz ?_
  exact r_iceq (okC hg hs hv) (tgt := 1457) (by decide) dL_865 (fun _ => kk) (fun q => absurd rfl q)
set_option maxRecDepth 20000 in
set_option maxHeartbeats 2000000 in
theorem w_joined {z : Zx} {B : Bx} {b L j F : Nat} {xs : Nat → Int32} {Q : State → Prop} {μ ν μ' ν' : Mm} {r : Int32} {σ : Nat} {v : Bool} {C : Nat × Nat} (hg : Og z B code 4 "RopeDanceLaw" (some .boolean) 13 TL) (hX : va_X b L xs (zs z) (zs z).heap) (hb : b < (zs z).heap.size) (hj : j + 6 ≤ L) (hL : L ≤ 3072) (hs : σ < 5) (hv : v = vσ σ ∨ σ = 0) (hC : C.1 ≤ 600000 ∧ C.2 ≤ 7302250) (f1 : fX11_joined F (xs (j + 1)) (xs (j + 2)) μ = some (r, μ')) (f2 : fX12_joined F (xs (j + 1)) (xs (j + 2)) ν = some (r, ν')) (hz : nz σ μ') (kk : Gq z (kC B σ v ν') 4 Q (C) 1457 μ' (lvL B v b (Int32.ofNat j)) []) : Gq z (kC B σ v ν) 4 Q (C) 870 μ (lvL B v b (Int32.ofNat j)) [] := by
  have h0 := hg.2.2.2.2.2.2.2.2.2.1
  refine r_aloadn (okC hg hs hv) 2 rfl rfl dL_870 ?_
  refine l_arg (okC hg hs hv) hX (nFC h0 hb) rfl rfl hj hL 1 (by decide) (y := 1) (by decide) (by decide) dL_871 dL_872 dL_873 dL_874 dL_875 ?_
  refine l_arg (okC hg hs hv) hX (nFC h0 hb) rfl rfl hj hL 2 (by decide) (y := 2) (by decide) (by decide) dL_876 dL_877 dL_878 dL_879 dL_880 ?_
  refine r_callV (okC hg hs hv) (As := [.int (xs (j + 1)), .int (xs (j + 2))]) (rest := []) (st1 := [.int r]) (c := 11) (i := 0) (TT := T11) (N := 12) MK_X11_joined rfl wi_X11_joined we_X11_joined wm_L_109 hC (cX11_joined (kC_ok hs hv) (e11 _ hs) f1) (e11 _ hs) (Nat.le_of_ble_eq_true rfl) rfl rfl (Nat.le_of_ble_eq_true rfl) rfl dL_881 (fun _ => ?_)
  refine l_CM ?_
  refine r_aloadn (okM hg hs hv) 1 rfl rfl dL_884 ?_
  refine l_arg (okM hg hs hv) hX (nFM h0 hb) rfl rfl hj hL 1 (by decide) (y := 1) (by decide) (by decide) dL_885 dL_886 dL_887 dL_888 dL_889 ?_
  refine l_arg (okM hg hs hv) hX (nFM h0 hb) rfl rfl hj hL 2 (by decide) (y := 2) (by decide) (by decide) dL_890 dL_891 dL_892 dL_893 dL_894 ?_
  refine r_callV (okM hg hs hv) (As := [.int (xs (j + 1)), .int (xs (j + 2))]) (rest := [.int r]) (st1 := [.int r, .int r]) (c := 12) (i := 0) (TT := T12) (N := 75) MK_X12_joined rfl wi_X12_joined we_X12_joined wm_L_112 hC (cX12_joined (kM_ok hs hv) e12 f2) e12 (Nat.le_of_ble_eq_true rfl) rfl rfl (Nat.le_of_ble_eq_true rfl) rfl dL_895 (fun _ => ?_)
  refine l_MC hs hz ?_
  exact r_iceq (okC hg hs hv) (tgt := 1457) (by decide) dL_898 (fun _ => kk) (fun q => absurd rfl q)
set_option maxRecDepth 20000 in
set_option maxHeartbeats 2000000 in
theorem w_order {z : Zx} {B : Bx} {b L j F : Nat} {xs : Nat → Int32} {Q : State → Prop} {μ ν μ' ν' : Mm} {r : Int32} {σ : Nat} {v : Bool} {C : Nat × Nat} (hg : Og z B code 4 "RopeDanceLaw" (some .boolean) 13 TL) (hX : va_X b L xs (zs z) (zs z).heap) (hb : b < (zs z).heap.size) (hj : j + 6 ≤ L) (hL : L ≤ 3072) (hs : σ < 5) (hv : v = vσ σ ∨ σ = 0) (hC : C.1 ≤ 600000 ∧ C.2 ≤ 7302250) (f1 : fX11_order F (xs (j + 1)) μ = some (r, μ')) (f2 : fX12_order F (xs (j + 1)) ν = some (r, ν')) (hz : nz σ μ') (kk : Gq z (kC B σ v ν') 4 Q (C) 1457 μ' (lvL B v b (Int32.ofNat j)) []) : Gq z (kC B σ v ν) 4 Q (C) 903 μ (lvL B v b (Int32.ofNat j)) [] := by
  have h0 := hg.2.2.2.2.2.2.2.2.2.1
  refine r_aloadn (okC hg hs hv) 2 rfl rfl dL_903 ?_
  refine l_arg (okC hg hs hv) hX (nFC h0 hb) rfl rfl hj hL 1 (by decide) (y := 1) (by decide) (by decide) dL_904 dL_905 dL_906 dL_907 dL_908 ?_
  refine r_callV (okC hg hs hv) (As := [.int (xs (j + 1))]) (rest := []) (st1 := [.int r]) (c := 11) (i := 0) (TT := T11) (N := 12) MK_X11_order rfl wi_X11_order we_X11_order wm_L_113 hC (cX11_order (kC_ok hs hv) (e11 _ hs) f1) (e11 _ hs) (Nat.le_of_ble_eq_true rfl) rfl rfl (Nat.le_of_ble_eq_true rfl) rfl dL_909 (fun _ => ?_)
  refine l_CM ?_
  refine r_aloadn (okM hg hs hv) 1 rfl rfl dL_912 ?_
  refine l_arg (okM hg hs hv) hX (nFM h0 hb) rfl rfl hj hL 1 (by decide) (y := 1) (by decide) (by decide) dL_913 dL_914 dL_915 dL_916 dL_917 ?_
  refine r_callV (okM hg hs hv) (As := [.int (xs (j + 1))]) (rest := [.int r]) (st1 := [.int r, .int r]) (c := 12) (i := 0) (TT := T12) (N := 75) MK_X12_order rfl wi_X12_order we_X12_order wm_L_116 hC (cX12_order (kM_ok hs hv) e12 f2) e12 (Nat.le_of_ble_eq_true rfl) rfl rfl (Nat.le_of_ble_eq_true rfl) rfl dL_918 (fun _ => ?_)
  refine l_MC hs hz ?_
  exact r_iceq (okC hg hs hv) (tgt := 1457) (by decide) dL_921 (fun _ => kk) (fun q => absurd rfl q)
