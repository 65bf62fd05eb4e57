set_option maxRecDepth 20000 in
set_option maxHeartbeats 2000000 in
theorem w_round {z : Zx} {B : Bx} {b L j F : Nat} {xs : Nat → Int32} {Q : State → Prop} {μ ν μ' ν' : Mm} {r : Int32} {σ : Nat} {v : Bool} {C : Nat × Nat} (hg : Og z B code 4 "RopeDanceLaw" (some .boolean) 13 TL) (hX : va_X b L xs (zs z) (zs z).heap) (hb : b < (zs z).heap.size) (hj : j + 6 ≤ L) (hL : L ≤ 3072) (hs : σ < 5) (hv : v = vσ σ ∨ σ = 0) (hC : C.1 ≤ 600000 ∧ C.2 ≤ 7302250) (f1 : fX11_round F (xs (j + 1)) (xs (j + 2)) μ = some (r, μ')) (f2 : fX12_round F (xs (j + 1)) (xs (j + 2)) ν = some (r, ν')) (hz : nz σ μ') (kk : Gq z (kC B σ v ν') 4 Q (C) 1457 μ' (lvL B v b (Int32.ofNat j)) []) : Gq z (kC B σ v ν) 4 Q (C) 926 μ (lvL B v b (Int32.ofNat j)) [] := by
  have h0 := hg.2.2.2.2.2.2.2.2.2.1
  refine r_aloadn (okC hg hs hv) 2 rfl rfl dL_926 ?_
  refine l_arg (okC hg hs hv) hX (nFC h0 hb) rfl rfl hj hL 1 (by decide) (y := 1) (by decide) (by decide) dL_927 dL_928 dL_929 dL_930 dL_931 ?_
  refine l_arg (okC hg hs hv) hX (nFC h0 hb) rfl rfl hj hL 2 (by decide) (y := 2) (by decide) (by decide) dL_932 dL_933 dL_934 dL_935 dL_936 ?_
  refine r_callV (okC hg hs hv) (As := [.int (xs (j + 1)), .int (xs (j + 2))]) (rest := []) (st1 := [.int r]) (c := 11) (i := 0) (TT := T11) (N := 12) MK_X11_round rfl wi_X11_round we_X11_round wm_L_117 hC (cX11_round (kC_ok hs hv) (e11 _ hs) f1) (e11 _ hs) (Nat.le_of_ble_eq_true rfl) rfl rfl (Nat.le_of_ble_eq_true rfl) rfl dL_937 (fun _ => ?_)
  refine l_CM ?_
  refine r_aloadn (okM hg hs hv) 1 rfl rfl dL_940 ?_
  refine l_arg (okM hg hs hv) hX (nFM h0 hb) rfl rfl hj hL 1 (by decide) (y := 1) (by decide) (by decide) dL_941 dL_942 dL_943 dL_944 dL_945 ?_
  refine l_arg (okM hg hs hv) hX (nFM h0 hb) rfl rfl hj hL 2 (by decide) (y := 2) (by decide) (by decide) dL_946 dL_947 dL_948 dL_949 dL_950 ?_
  refine r_callV (okM hg hs hv) (As := [.int (xs (j + 1)), .int (xs (j + 2))]) (rest := [.int r]) (st1 := [.int r, .int r]) (c := 12) (i := 0) (TT := T12) (N := 75) MK_X12_round rfl wi_X12_round we_X12_round wm_L_120 hC (cX12_round (kM_ok hs hv) e12 f2) e12 (Nat.le_of_ble_eq_true rfl) rfl rfl (Nat.le_of_ble_eq_true rfl) rfl dL_951 (fun _ => ?_)
  refine l_MC hs hz ?_
  exact r_iceq (okC hg hs hv) (tgt := 1457) (by decide) dL_954 (fun _ => kk) (fun q => absurd rfl q)
set_option maxRecDepth 20000 in
set_option maxHeartbeats 2000000 in
theorem w_power {z : Zx} {B : Bx} {b L j F : Nat} {xs : Nat → Int32} {Q : State → Prop} {μ ν μ' ν' : Mm} {r : Int32} {σ : Nat} {v : Bool} {C : Nat × Nat} (hg : Og z B code 4 "RopeDanceLaw" (some .boolean) 13 TL) (hX : va_X b L xs (zs z) (zs z).heap) (hb : b < (zs z).heap.size) (hj : j + 6 ≤ L) (hL : L ≤ 3072) (hs : σ < 5) (hv : v = vσ σ ∨ σ = 0) (hC : C.1 ≤ 600000 ∧ C.2 ≤ 7302250) (f1 : fX11_power F (xs (j + 1)) (xs (j + 2)) (xs (j + 3)) (xs (j + 4)) μ = some (r, μ')) (f2 : fX12_power F (xs (j + 1)) (xs (j + 2)) (xs (j + 3)) (xs (j + 4)) ν = some (r, ν')) (hz : nz σ μ') (kk : Gq z (kC B σ v ν') 4 Q (C) 1457 μ' (lvL B v b (Int32.ofNat j)) []) : Gq z (kC B σ v ν) 4 Q (C) 959 μ (lvL B v b (Int32.ofNat j)) [] := by
  have h0 := hg.2.2.2.2.2.2.2.2.2.1
  refine r_aloadn (okC hg hs hv) 2 rfl rfl dL_959 ?_
  refine l_arg (okC hg hs hv) hX (nFC h0 hb) rfl rfl hj hL 1 (by decide) (y := 1) (by decide) (by decide) dL_960 dL_961 dL_962 dL_963 dL_964 ?_
  refine l_arg (okC hg hs hv) hX (nFC h0 hb) rfl rfl hj hL 2 (by decide) (y := 2) (by decide) (by decide) dL_965 dL_966 dL_967 dL_968 dL_969 ?_
  refine l_arg (okC hg hs hv) hX (nFC h0 hb) rfl rfl hj hL 3 (by decide) (y := 3) (by decide) (by decide) dL_970 dL_971 dL_972 dL_973 dL_974 ?_
  refine l_arg (okC hg hs hv) hX (nFC h0 hb) rfl rfl hj hL 4 (by decide) (y := 4) (by decide) (by decide) dL_975 dL_976 dL_977 dL_978 dL_979 ?_
  refine r_callV (okC hg hs hv) (As := [.int (xs (j + 1)), .int (xs (j + 2)), .int (xs (j + 3)), .int (xs (j + 4))]) (rest := []) (st1 := [.int r]) (c := 11) (i := 0) (TT := T11) (N := 12) MK_X11_power rfl wi_X11_power we_X11_power wm_L_121 hC (cX11_power (kC_ok hs hv) (e11 _ hs) f1) (e11 _ hs) (Nat.le_of_ble_eq_true rfl) rfl rfl (Nat.le_of_ble_eq_true rfl) rfl dL_980 (fun _ => ?_)
  refine l_CM ?_
  refine r_aloadn (okM hg hs hv) 1 rfl rfl dL_983 ?_
  refine l_arg (okM hg hs hv) hX (nFM h0 hb) rfl rfl hj hL 1 (by decide) (y := 1) (by decide) (by decide) dL_984 dL_985 dL_986 dL_987 dL_988 ?_
  refine l_arg (okM hg hs hv) hX (nFM h0 hb) rfl rfl hj hL 2 (by decide) (y := 2) (by decide) (by decide) dL_989 dL_990 dL_991 dL_992 dL_993 ?_
  refine l_arg (okM hg hs hv) hX (nFM h0 hb) rfl rfl hj hL 3 (by decide) (y := 3) (by decide) (by decide) dL_994 dL_995 dL_996 dL_997 dL_998 ?_
  refine l_arg (okM hg hs hv) hX (nFM h0 hb) rfl rfl hj hL 4 (by decide) (y := 4) (by decide) (by decide) dL_999 dL_1000 dL_1001 dL_1002 dL_1003 ?_
  refine r_callV (okM hg hs hv) (As := [.int (xs (j + 1)), .int (xs (j + 2)), .int (xs (j + 3)), .int (xs (j + 4))]) (rest := [.int r]) (st1 := [.int r, .int r]) (c := 12) (i := 0) (TT := T12) (N := 75) MK_X12_power rfl wi_X12_power we_X12_power wm_L_125 hC (cX12_power (kM_ok hs hv) e12 f2) e12 (Nat.le_of_ble_eq_true rfl) rfl rfl (Nat.le_of_ble_eq_true rfl) rfl dL_1004 (fun _ => ?_)
  refine l_MC hs hz ?_
  exact r_iceq (okC hg hs hv) (tgt := 1457) (by decide) dL_1007 (fun _ => kk) (fun q => absurd rfl q)
set_option maxRecDepth 20000 in
set_option maxHeartbeats 2000000 in
theorem w_stays {z : Zx} {B : Bx} {b L j F : Nat} {xs : Nat → Int32} {Q : State → Prop} {μ ν μ' ν' : Mm} {r : Int32} {σ : Nat} {v : Bool} {C : Nat × Nat} (hg : Og z B code 4 "RopeDanceLaw" (some .boolean) 13 TL) (hX : va_X b L xs (zs z) (zs z).heap) (hb : b < (zs z).heap.size) (hj : j + 6 ≤ L) (hL : L ≤ 3072) (hs : σ < 5) (hv : v = vσ σ ∨ σ = 0) (hC : C.1 ≤ 600000 ∧ C.2 ≤ 7302250) (f1 : fX11_stays F (xs (j + 1)) (xs (j + 2)) μ = some (r, μ')) (f2 : fX12_stays F (xs (j + 1)) (xs (j + 2)) ν = some (r, ν')) (hz : nz σ μ') (kk : Gq z (kC B σ v ν') 4 Q (C) 1457 μ' (lvL B v b (Int32.ofNat j)) []) : Gq z (kC B σ v ν) 4 Q (C) 1012 μ (lvL B v b (Int32.ofNat j)) [] := by
  have h0 := hg.2.2.2.2.2.2.2.2.2.1
  refine r_aloadn (okC hg hs hv) 2 rfl rfl dL_1012 ?_
  refine l_arg (okC hg hs hv) hX (nFC h0 hb) rfl rfl hj hL 1 (by decide) (y := 1) (by decide) (by decide) dL_1013 dL_1014 dL_1015 dL_1016 dL_1017 ?_
  refine l_arg (okC hg hs hv) hX (nFC h0 hb) rfl rfl hj hL 2 (by decide) (y := 2) (by decide) (by decide) dL_1018 dL_1019 dL_1020 dL_1021 dL_1022 ?_
  refine r_callV (okC hg hs hv) (As := [.int (xs (j + 1)), .int (xs (j + 2))]) (rest := []) (st1 := [.int r]) (c := 11) (i := 0) (TT := T11) (N := 12) MK_X11_stays rfl wi_X11_stays we_X11_stays wm_L_126 hC (cX11_stays (kC_ok hs hv) (e11 _ hs) f1) (e11 _ hs) (Nat.le_of_ble_eq_true rfl) rfl rfl (Nat.le_of_ble_eq_true rfl) rfl dL_1023 (fun _ => ?_)
  refine l_CM ?_
  refine r_aloadn (okM hg hs hv) 1 rfl rfl dL_1026 ?_
  refine l_arg (okM hg hs hv) hX (nFM h0 hb) rfl rfl hj hL 1 (by decide) (y := 1) (by decide) (by decide) dL_1027 dL_1028 dL_1029 dL_1030 dL_1031 ?_
  refine l_arg (okM hg hs hv) hX (nFM h0 hb) rfl rfl hj hL 2 (by decide) (y := 2) (by decide) (by decide) dL_1032 dL_1033 dL_1034 dL_1035 dL_1036 ?_
  refine r_callV (okM hg hs hv) (As := [.int (xs (j + 1)), .int (xs (j + 2))]) (rest := [.int r]) (st1 := [.int r, .int r]) (c := 12) (i := 0) (TT := T12) (N := 75) MK_X12_stays rfl wi_X12_stays we_X12_stays wm_L_129 hC (cX12_stays (kM_ok hs hv) e12 f2) e12 (Nat.le_of_ble_eq_true rfl) rfl rfl (Nat.le_of_ble_eq_true rfl) rfl dL_1037 (fun _ => ?_)
  refine l_MC hs hz ?_
  exact r_iceq (okC hg hs hv) (tgt := 1457) (by decide) dL_1040 (fun _ => kk) (fun q => absurd rfl q)
set_option maxRecDepth 20000 in
set_option maxHeartbeats 2000000 in
theorem w_mind {z : Zx} {B : Bx} {b L j F : Nat} {xs : Nat → Int32} {Q : State → Prop} {μ ν μ' ν' : Mm} {r : Int32} {σ : Nat} {v : Bool} {C : Nat × Nat} (hg : Og z B code 4 "RopeDanceLaw" (some .boolean) 13 TL) (hX : va_X b L xs (zs z) (zs z).heap) (hb : b < (zs z).heap.size) (hj : j + 6 ≤ L) (hL : L ≤ 3072) (hs : σ < 5) (hv : v = vσ σ ∨ σ = 0) (hC : C.1 ≤ 600000 ∧ C.2 ≤ 7302250) (f1 : fX11_mind F (xs (j + 1)) (xs (j + 2)) μ = some (r, μ')) (f2 : fX12_mind F (xs (j + 1)) (xs (j + 2)) ν = some (r, ν')) (hz : nz σ μ') (kk : Gq z (kC B σ v ν') 4 Q (C) 1457 μ' (lvL B v b (Int32.ofNat j)) []) : Gq z (kC B σ v ν) 4 Q (C) 1045 μ (lvL B v b (Int32.ofNat j)) [] := by
  have h0 := hg.2.2.2.2.2.2.2.2.2.1
  refine r_aloadn (okC hg hs hv) 2 rfl rfl dL_1045 ?_
  refine l_arg (okC hg hs hv) hX (nFC h0 hb) rfl rfl hj hL 1 (by decide) (y := 1) (by decide) (by decide) dL_1046 dL_1047 dL_1048 dL_1049 dL_1050 ?_
  refine l_arg (okC hg hs hv) hX (nFC h0 hb) rfl rfl hj hL 2 (by decide) (y := 2) (by decide) (by decide) dL_1051 dL_1052 dL_1053 dL_1054 dL_1055 ?_
  refine r_callV (okC hg hs hv) (As := [.int (xs (j + 1)), .int (xs (j + 2))]) (rest := []) (st1 := [.int r]) (c := 11) (i := 0) (TT := T11) (N := 12) MK_X11_mind rfl wi_X11_mind we_X11_mind wm_L_130 hC (cX11_mind (kC_ok hs hv) (e11 _ hs) f1) (e11 _ hs) (Nat.le_of_ble_eq_true rfl) rfl rfl (Nat.le_of_ble_eq_true rfl) rfl dL_1056 (fun _ => ?_)
  refine l_CM ?_
  refine r_aloadn (okM hg hs hv) 1 rfl rfl dL_1059 ?_
  refine l_arg (okM hg hs hv) hX (nFM h0 hb) rfl rfl hj hL 1 (by decide) (y := 1) (by decide) (by decide) dL_1060 dL_1061 dL_1062 dL_1063 dL_1064 ?_
  refine l_arg (okM hg hs hv) hX (nFM h0 hb) rfl rfl hj hL 2 (by decide) (y := 2) (by decide) (by decide) dL_1065 dL_1066 dL_1067 dL_1068 dL_1069 ?_
  refine r_callV (okM hg hs hv) (As := [.int (xs (j + 1)), .int (xs (j + 2))]) (rest := [.int r]) (st1 := [.int r, .int r]) (c := 12) (i := 0) (TT := T12) (N := 75) MK_X12_mind rfl wi_X12_mind we_X12_mind wm_L_133 hC (cX12_mind (kM_ok hs hv) e12 f2) e12 (Nat.le_of_ble_eq_true rfl) rfl rfl (Nat.le_of_ble_eq_true rfl) rfl dL_1070 (fun _ => ?_)
  refine l_MC hs hz ?_
  exact r_iceq (okC hg hs hv) (tgt := 1457) (by decide) dL_1073 (fun _ => kk) (fun q => absurd rfl q)
set_option maxRecDepth 20000 in
set_option maxHeartbeats 2000000 in
theorem w_reverse {z : Zx} {B : Bx} {b L j F : Nat} {xs : Nat → Int32} {Q : State → Prop} {μ ν μ' ν' : Mm} {r : Int32} {σ : Nat} {v : Bool} {C : Nat × Nat} (hg : Og z B code 4 "RopeDanceLaw" (some .boolean) 13 TL) (hX : va_X b L xs (zs z) (zs z).heap) (hb : b < (zs z).heap.size) (hj : j + 6 ≤ L) (hL : L ≤ 3072) (hs : σ < 5) (hv : v = vσ σ ∨ σ = 0) (hC : C.1 ≤ 600000 ∧ C.2 ≤ 7302250) (f1 : fX11_reverse F (xs (j + 1)) μ = some (r, μ')) (f2 : fX12_reverse F (xs (j + 1)) ν = some (r, ν')) (hz : nz σ μ') (kk : Gq z (kC B σ v ν') 4 Q (C) 1457 μ' (lvL B v b (Int32.ofNat j)) []) : Gq z (kC B σ v ν) 4 Q (C) 1078 μ (lvL B v b (Int32.ofNat j)) [] := by
  have h0 := hg.2.2.2.2.2.2.2.2.2.1
  refine r_aloadn (okC hg hs hv) 2 rfl rfl dL_1078 ?_
  refine l_arg (okC hg hs hv) hX (nFC h0 hb) rfl rfl hj hL 1 (by decide) (y := 1) (by decide) (by decide) dL_1079 dL_1080 dL_1081 dL_1082 dL_1083 ?_
  refine r_callV (okC hg hs hv) (As := [.int (xs (j + 1))]) (rest := []) (st1 := [.int r]) (c := 11) (i := 0) (TT := T11) (N := 12) MK_X11_reverse rfl wi_X11_reverse we_X11_reverse wm_L_134 hC (cX11_reverse (kC_ok hs hv) (e11 _ hs) f1) (e11 _ hs) (Nat.le_of_ble_eq_true rfl) rfl rfl (Nat.le_of_ble_eq_true rfl) rfl dL_1084 (fun _ => ?_)
  refine l_CM ?_
  refine r_aloadn (okM hg hs hv) 1 rfl rfl dL_1087 ?_
  refine l_arg (okM hg hs hv) hX (nFM h0 hb) rfl rfl hj hL 1 (by decide) (y := 1) (by decide) (by decide) dL_1088 dL_1089 dL_1090 dL_1091 dL_1092 ?_
  refine r_callV (okM hg hs hv) (As := [.int (xs (j + 1))]) (rest := [.int r]) (st1 := [.int r, .int r]) (c := 12) (i := 0) (TT := T12) (N := 75) MK_X12_reverse rfl wi_X12_reverse we_X12_reverse wm_L_137 hC (cX12_reverse (kM_ok hs hv) e12 f2) e12 (Nat.le_of_ble_eq_true rfl) rfl rfl (Nat.le_of_ble_eq_true rfl) rfl dL_1093 (fun _ => ?_)
  refine l_MC hs hz ?_
  exact r_iceq (okC hg hs hv) (tgt := 1457) (by decide) dL_1096 (fun _ => kk) (fun q => absurd rfl q)
set_option maxRecDepth 20000 in
set_option maxHeartbeats 2000000 in
theorem w_hands {z : Zx} {B : Bx} {b L j F : Nat} {xs : Nat → Int32} {Q : State → Prop} {μ ν μ' ν' : Mm} {r : Int32} {σ : Nat} {v : Bool} {C : Nat × Nat} (hg : Og z B code 4 "RopeDanceLaw" (some .boolean) 13 TL) (hX : va_X b L xs (zs z) (zs z).heap) (hb : b < (zs z).heap.size) (hj : j + 6 ≤ L) (hL : L ≤ 3072) (hs : σ < 5) (hv : v = vσ σ ∨ σ = 0) (hC : C.1 ≤ 600000 ∧ C.2 ≤ 7302250) (f1 : fX11_hands F (xs (j + 1)) (xs (j + 2)) μ = some (r, μ')) (f2 : fX12_hands F (xs (j + 1)) (xs (j + 2)) ν = some (r, ν')) (hz : nz σ μ') (kk : Gq z (kC B σ v ν') 4 Q (C) 1457 μ' (lvL B v b (Int32.ofNat j)) []) : Gq z (kC B σ v ν) 4 Q (C) 1101 μ (lvL B v b (Int32.ofNat j)) [] := by
  have h0 := hg.2.2.2.2.2.2.2.2.2.1
  refine r_aloadn (okC hg hs hv) 2 rfl rfl dL_1101 ?_
  refine l_arg (okC hg hs hv) hX (nFC h0 hb) rfl rfl hj hL 1 (by decide) (y := 1) (by decide) (by decide) dL_1102 dL_1103 dL_1104 dL_1105 dL_1106 ?_
  refine l_arg (okC hg hs hv) hX (nFC h0 hb) rfl rfl hj hL 2 (by decide) (y := 2) (by decide) (by decide) dL_1107 dL_1108 dL_1109 dL_1110 dL_1111 ?_
  refine r_callV (okC hg hs hv) (As := [.int (xs (j + 1)), .int (xs (j + 2))]) (rest := []) (st1 := [.int r]) (c := 11) (i := 0) (TT := T11) (N := 12) MK_X11_hands rfl wi_X11_hands we_X11_hands wm_L_138 hC (cX11_hands (kC_ok hs hv) (e11 _ hs) f1) (e11 _ hs) (Nat.le_of_ble_eq_true rfl) rfl rfl (Nat.le_of_ble_eq_true rfl) rfl dL_1112 (fun _ => ?_)
  refine l_CM ?_
  refine r_aloadn (okM hg hs hv) 1 rfl rfl dL_1115 ?_
  refine l_arg (okM hg hs hv) hX (nFM h0 hb) rfl rfl hj hL 1 (by decide) (y := 1) (by decide) (by decide) dL_1116 dL_1117 dL_1118 dL_1119 dL_1120 ?_
  refine l_arg (okM hg hs hv) hX (nFM h0 hb) rfl rfl hj hL 2 (by decide) (y := 2) (by decide) (by decide) dL_1121 dL_1122 dL_1123 dL_1124 dL_1125 ?_
  refine r_callV (okM hg hs hv) (As := [.int (xs (j + 1)), .int (xs (j + 2))]) (rest := [.int r]) (st1 := [.int r, .int r]) (c := 12) (i := 0) (TT := T12) (N := 75) MK_X12_hands rfl wi_X12_hands we_X12_hands wm_L_141 hC (cX12_hands (kM_ok hs hv) e12 f2) e12 (Nat.le_of_ble_eq_true rfl) rfl rfl (Nat.le_of_ble_eq_true rfl) rfl dL_1126 (fun _ => ?_)
  refine l_MC hs hz ?_
  exact r_iceq (okC hg hs hv) (tgt := 1457) (by decide) dL_1129 (fun _ => kk) (fun q => absurd rfl q)
set_option maxRecDepth 20000 in
set_option maxHeartbeats 2000000 in
theorem w_then {z : Zx} {B : Bx} {b L j F : Nat} {xs : Nat → Int32} {Q : State → Prop} {μ ν μ' ν' : Mm} {r : Int32} {σ : Nat} {v : Bool} {C : Nat × Nat} (hg : Og z B code 4 "RopeDanceLaw" (some .boolean) 13 TL) (hX : va_X b L xs (zs z) (zs z).heap) (hb : b < (zs z).heap.size) (hj : j + 6 ≤ L) (hL : L ≤ 3072) (hs : σ < 5) (hv : v = vσ σ ∨ σ = 0) (hC : C.1 ≤ 600000 ∧ C.2 ≤ 7302250) (f1 : fX11_then F (xs (j + 1)) (xs (j + 2)) (xs (j + 3)) μ = some (r, μ')) (f2 : fX12_then F (xs (j + 1)) (xs (j + 2)) (xs (j + 3)) ν = some (r, ν')) (hz : nz σ μ') (kk : Gq z (kC B σ v ν') 4 Q (C) 1457 μ' (lvL B v b (Int32.ofNat j)) []) : Gq z (kC B σ v ν) 4 Q (C) 1134 μ (lvL B v b (Int32.ofNat j)) [] := by
  have h0 := hg.2.2.2.2.2.2.2.2.2.1
  refine r_aloadn (okC hg hs hv) 2 rfl rfl dL_1134 ?_
  refine l_arg (okC hg hs hv) hX (nFC h0 hb) rfl rfl hj hL 1 (by decide) (y := 1) (by decide) (by decide) dL_1135 dL_1136 dL_1137 dL_1138 dL_1139 ?_
  refine l_arg (okC hg hs hv) hX (nFC h0 hb) rfl rfl hj hL 2 (by decide) (y := 2) (by decide) (by decide) dL_1140 dL_1141 dL_1142 dL_1143 dL_1144 ?_
  refine l_arg (okC hg hs hv) hX (nFC h0 hb) rfl rfl hj hL 3 (by decide) (y := 3) (by decide) (by decide) dL_1145 dL_1146 dL_1147 dL_1148 dL_1149 ?_
  refine r_callV (okC hg hs hv) (As := [.int (xs (j + 1)), .int (xs (j + 2)), .int (xs (j + 3))]) (rest := []) (st1 := [.int r]) (c := 11) (i := 0) (TT := T11) (N := 12) MK_X11_then rfl wi_X11_then we_X11_then wm_L_142 hC (cX11_then (kC_ok hs hv) (e11 _ hs) f1) (e11 _ hs) (Nat.le_of_ble_eq_true rfl) rfl rfl (Nat.le_of_ble_eq_true rfl) rfl dL_1150 (fun _ => ?_)
  refine l_CM ?_
  refine r_aloadn (okM hg hs hv) 1 rfl rfl dL_1153 ?_
  refine l_arg (okM hg hs hv) hX (nFM h0 hb) rfl rfl hj hL 1 (by decide) (y := 1) (by decide) (by decide) dL_1154 dL_1155 dL_1156 dL_1157 dL_1158 ?_
  refine l_arg (okM hg hs hv) hX (nFM h0 hb) rfl rfl hj hL 2 (by decide) (y := 2) (by decide) (by decide) dL_1159 dL_1160 dL_1161 dL_1162 dL_1163 ?_
  refine l_arg (okM hg hs hv) hX (nFM h0 hb) rfl rfl hj hL 3 (by decide) (y := 3) (by decide) (by decide) dL_1164 dL_1165 dL_1166 dL_1167 dL_1168 ?_
  refine r_callV (okM hg hs hv) (As := [.int (xs (j + 1)), .int (xs (j + 2)), .int (xs (j + 3))]) (rest := [.int r]) (st1 := [.int r, .int r]) (c := 12) (i := 0) (TT := T12) (N := 75) MK_X12_then rfl wi_X12_then we_X12_then wm_L_145 hC (cX12_then (kM_ok hs hv) e12 f2) e12 (Nat.le_of_ble_eq_true rfl) rfl rfl (Nat.le_of_ble_eq_true rfl) rfl dL_1169 (fun _ => ?_)
  refine l_MC hs hz ?_
  exact r_iceq (okC hg hs hv) (tgt := 1457) (by decide) dL_1172 (fun _ => kk) (fun q => absurd rfl q)
set_option maxRecDepth 20000 in
set_option maxHeartbeats 2000000 in
theorem w_year {z : Zx} {B : Bx} {b L j F : Nat} {xs : Nat → Int32} {Q : State → Prop} {μ ν μ' ν' : Mm} {r : Int32} {σ : Nat} {v : Bool} {C : Nat × Nat} (hg : Og z B code 4 "RopeDanceLaw" (some .boolean) 13 TL) (hX : va_X b L xs (zs z) (zs z).heap) (hb : b < (zs z).heap.size) (hj : j + 6 ≤ L) (hL : L ≤ 3072) (hs : σ < 5) (hv : v = vσ σ ∨ σ = 0) (hC : C.1 ≤ 600000 ∧ C.2 ≤ 7302250) (f1 : fX11_year F (xs (j + 1)) (xs (j + 2)) (xs (j + 3)) μ = some (r, μ')) (f2 : fX12_year F (xs (j + 1)) (xs (j + 2)) (xs (j + 3)) ν = some (r, ν')) (hz : nz σ μ') (kk : Gq z (kC B σ v ν') 4 Q (C) 1457 μ' (lvL B v b (Int32.ofNat j)) []) : Gq z (kC B σ v ν) 4 Q (C) 1177 μ (lvL B v b (Int32.ofNat j)) [] := by
  have h0 := hg.2.2.2.2.2.2.2.2.2.1
  refine r_aloadn (okC hg hs hv) 2 rfl rfl dL_1177 ?_
  refine l_arg (okC hg hs hv) hX (nFC h0 hb) rfl rfl hj hL 1 (by decide) (y := 1) (by decide) (by decide) dL_1178 dL_1179 dL_1180 dL_1181 dL_1182 ?_
  refine l_arg (okC hg hs hv) hX (nFC h0 hb) rfl rfl hj hL 2 (by decide) (y := 2) (by decide) (by decide) dL_1183 dL_1184 dL_1185 dL_1186 dL_1187 ?_
  refine l_arg (okC hg hs hv) hX (nFC h0 hb) rfl rfl hj hL 3 (by decide) (y := 3) (by decide) (by decide) dL_1188 dL_1189 dL_1190 dL_1191 dL_1192 ?_
  refine r_callV (okC hg hs hv) (As := [.int (xs (j + 1)), .int (xs (j + 2)), .int (xs (j + 3))]) (rest := []) (st1 := [.int r]) (c := 11) (i := 0) (TT := T11) (N := 12) MK_X11_year rfl wi_X11_year we_X11_year wm_L_146 hC (cX11_year (kC_ok hs hv) (e11 _ hs) f1) (e11 _ hs) (Nat.le_of_ble_eq_true rfl) rfl rfl (Nat.le_of_ble_eq_true rfl) rfl dL_1193 (fun _ => ?_)
  refine l_CM ?_
  refine r_aloadn (okM hg hs hv) 1 rfl rfl dL_1196 ?_
  refine l_arg (okM hg hs hv) hX (nFM h0 hb) rfl rfl hj hL 1 (by decide) (y := 1) (by decide) (by decide) dL_1197 dL_1198 dL_1199 dL_1200 dL_1201 ?_
  refine l_arg (okM hg hs hv) hX (nFM h0 hb) rfl rfl hj hL 2 (by decide) (y := 2) (by decide) (by decide) dL_1202 dL_1203 dL_1204 dL_1205 dL_1206 ?_
  refine l_arg (okM hg hs hv) hX (nFM h0 hb) rfl rfl hj hL 3 (by decide) (y := 3) (by decide) (by decide) dL_1207 dL_1208 dL_1209 dL_1210 dL_1211 ?_
  refine r_callV (okM hg hs hv) (As := [.int (xs (j + 1)), .int (xs (j + 2)), .int (xs (j + 3))]) (rest := [.int r]) (st1 := [.int r, .int r]) (c := 12) (i := 0) (TT := T12) (N := 75) MK_X12_year rfl wi_X12_year we_X12_year wm_L_149 hC (cX12_year (kM_ok hs hv) e12 f2) e12 (Nat.le_of_ble_eq_true rfl) rfl rfl (Nat.le_of_ble_eq_true rfl) rfl dL_1212 (fun _ => ?_)
  refine l_MC hs hz ?_
  exact r_iceq (okC hg hs hv) (tgt := 1457) (by decide) dL_1215 (fun _ => kk) (fun q => absurd rfl q)
