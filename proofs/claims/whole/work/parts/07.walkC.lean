theorem dX11_feed_0 : decode bX11_feed 0 = .ok (.aload_n 0, 1) := by decide +kernel
theorem dX11_feed_1 : decode bX11_feed 1 = .ok (.getfield 10, 3) := by decide +kernel
theorem dX11_feed_4 : decode bX11_feed 4 = .ok (.bipush 20, 2) := by decide +kernel
theorem dX11_feed_6 : decode bX11_feed 6 = .ok (.invokevirtual 73, 3) := by decide +kernel
theorem dX11_feed_9 : decode bX11_feed 9 = .ok (.ifCond .ne 5, 3) := by decide +kernel
theorem dX11_feed_12 : decode bX11_feed 12 = .ok (.iconst (-1), 1) := by decide +kernel
theorem dX11_feed_13 : decode bX11_feed 13 = .ok (.ireturn, 1) := by decide +kernel
theorem dX11_feed_14 : decode bX11_feed 14 = .ok (.aload_n 0, 1) := by decide +kernel
theorem dX11_feed_15 : decode bX11_feed 15 = .ok (.getfield 10, 3) := by decide +kernel
theorem dX11_feed_18 : decode bX11_feed 18 = .ok (.iload_n 1, 1) := by decide +kernel
theorem dX11_feed_19 : decode bX11_feed 19 = .ok (.invokevirtual 77, 3) := by decide +kernel
theorem dX11_feed_22 : decode bX11_feed 22 = .ok (.aload_n 0, 1) := by decide +kernel
theorem dX11_feed_23 : decode bX11_feed 23 = .ok (.getfield 10, 3) := by decide +kernel
theorem dX11_feed_26 : decode bX11_feed 26 = .ok (.iload_n 2, 1) := by decide +kernel
theorem dX11_feed_27 : decode bX11_feed 27 = .ok (.invokevirtual 77, 3) := by decide +kernel
theorem dX11_feed_30 : decode bX11_feed 30 = .ok (.aload_n 0, 1) := by decide +kernel
theorem dX11_feed_31 : decode bX11_feed 31 = .ok (.getfield 10, 3) := by decide +kernel
theorem dX11_feed_34 : decode bX11_feed 34 = .ok (.iload_n 3, 1) := by decide +kernel
theorem dX11_feed_35 : decode bX11_feed 35 = .ok (.invokevirtual 77, 3) := by decide +kernel
theorem dX11_feed_38 : decode bX11_feed 38 = .ok (.aload_n 0, 1) := by decide +kernel
theorem dX11_feed_39 : decode bX11_feed 39 = .ok (.getfield 10, 3) := by decide +kernel
theorem dX11_feed_42 : decode bX11_feed 42 = .ok (.iload 4, 2) := by decide +kernel
theorem dX11_feed_44 : decode bX11_feed 44 = .ok (.invokevirtual 77, 3) := by decide +kernel
theorem dX11_feed_47 : decode bX11_feed 47 = .ok (.aload_n 0, 1) := by decide +kernel
theorem dX11_feed_48 : decode bX11_feed 48 = .ok (.getfield 10, 3) := by decide +kernel
theorem dX11_feed_51 : decode bX11_feed 51 = .ok (.iload 5, 2) := by decide +kernel
theorem dX11_feed_53 : decode bX11_feed 53 = .ok (.invokevirtual 77, 3) := by decide +kernel
theorem dX11_feed_56 : decode bX11_feed 56 = .ok (.aload_n 0, 1) := by decide +kernel
theorem dX11_feed_57 : decode bX11_feed 57 = .ok (.getfield 10, 3) := by decide +kernel
theorem dX11_feed_60 : decode bX11_feed 60 = .ok (.getfield 81, 3) := by decide +kernel
theorem dX11_feed_63 : decode bX11_feed 63 = .ok (.ireturn, 1) := by decide +kernel
set_option maxRecDepth 20000 in
set_option maxHeartbeats 4000000 in
theorem cX11_feed {l : Launch} {k : Kx} {F : Nat} {a1 : Int32} {a2 : Int32} {a3 : Int32} {a4 : Int32} {a5 : Int32} {μ μ' : Mm} {r : Int32} (hk : kok k) (e_this : kex k 11 0) (hf : fX11_feed F a1 a2 a3 a4 a5 μ = some (r, μ')) : MM l k 2 yX11_feed bX11_feed 6 (some .int) [.ref (kad k 11 0), .int a1, .int a2, .int a3, .int a4, .int a5] μ (some (.int r)) μ' := by
  refine MM.of (lv := [(0, .ref (kad k 11 0)), (1, .int a1), (2, .int a2), (3, .int a3), (4, .int a4), (5, .int a5)]) (plainFor_of_name (by decide)) hk (Nat.le_of_ble_eq_true rfl) rfl (fun z hl hx => ?_)
  subst hl
  have hx : Ok z k bX11_feed 6 "RopeDance" (some .int) 2 (0, 0) := hx
  unfold fX11_feed at hf
  refine r_aloadn hx 0 rfl rfl dX11_feed_0 ?_
  refine r_getR hx (c' := 7) (i' := 0) FK11_0 e_this rfl wf_X11_10 dX11_feed_1 (fun e1 => ?_)
  refine r_bipush hx cb_20 dX11_feed_4 ?_
  obtain ⟨r4, μ3, c2, hf⟩ := f_bd2 hf
  refine r_callV hx (As := [.int 20]) (rest := []) (st1 := [.int r4]) (c := 7) (i := 0) (TT := T7) (N := 11) MK_X7_hasRoom rfl wi_X7_hasRoom we_X7_hasRoom wm_X11_73 ⟨Nat.le_refl _, Nat.le_refl _⟩ (cX7_hasRoom hk e1 c2) e1 (Nat.le_of_ble_eq_true rfl) rfl rfl (Nat.le_of_ble_eq_true rfl) rfl dX11_feed_6 (fun hb5 => ?_)
  refine r_ifne (tgt := 14) hx rfl dX11_feed_9 (fun q6 => ?_) (fun q6 => ?_)
  · have hf := (f_ite hf).2 q6
    refine r_aloadn hx 0 rfl rfl dX11_feed_14 ?_
    refine r_getR hx (c' := 7) (i' := 0) FK11_0 e_this rfl wf_X11_10 dX11_feed_15 (fun e7 => ?_)
    refine r_iloadn hx 1 rfl rfl dX11_feed_18 ?_
    obtain ⟨μ9, c8, hf⟩ := f_bd1 hf
    refine r_callV hx (As := [.int a1]) (rest := []) (st1 := []) (c := 7) (i := 0) (TT := T7) (N := 11) MK_X7_append rfl wi_X7_append we_X7_append wm_X11_77 ⟨Nat.le_refl _, Nat.le_refl _⟩ (cX7_append hk e7 c8) e7 (Nat.le_of_ble_eq_true rfl) rfl rfl (Nat.le_of_ble_eq_true rfl) rfl dX11_feed_19 (fun hb10 => ?_)
    refine r_aloadn hx 0 rfl rfl dX11_feed_22 ?_
    refine r_getR hx (c' := 7) (i' := 0) FK11_0 e_this rfl wf_X11_10 dX11_feed_23 (fun e11 => ?_)
    refine r_iloadn hx 2 rfl rfl dX11_feed_26 ?_
    obtain ⟨μ13, c12, hf⟩ := f_bd1 hf
    refine r_callV hx (As := [.int a2]) (rest := []) (st1 := []) (c := 7) (i := 0) (TT := T7) (N := 11) MK_X7_append rfl wi_X7_append we_X7_append wm_X11_77 ⟨Nat.le_refl _, Nat.le_refl _⟩ (cX7_append hk e11 c12) e11 (Nat.le_of_ble_eq_true rfl) rfl rfl (Nat.le_of_ble_eq_true rfl) rfl dX11_feed_27 (fun hb14 => ?_)
    refine r_aloadn hx 0 rfl rfl dX11_feed_30 ?_
    refine r_getR hx (c' := 7) (i' := 0) FK11_0 e_this rfl wf_X11_10 dX11_feed_31 (fun e15 => ?_)
    refine r_iloadn hx 3 rfl rfl dX11_feed_34 ?_
    obtain ⟨μ17, c16, hf⟩ := f_bd1 hf
    refine r_callV hx (As := [.int a3]) (rest := []) (st1 := []) (c := 7) (i := 0) (TT := T7) (N := 11) MK_X7_append rfl wi_X7_append we_X7_append wm_X11_77 ⟨Nat.le_refl _, Nat.le_refl _⟩ (cX7_append hk e15 c16) e15 (Nat.le_of_ble_eq_true rfl) rfl rfl (Nat.le_of_ble_eq_true rfl) rfl dX11_feed_35 (fun hb18 => ?_)
    refine r_aloadn hx 0 rfl rfl dX11_feed_38 ?_
    refine r_getR hx (c' := 7) (i' := 0) FK11_0 e_this rfl wf_X11_10 dX11_feed_39 (fun e19 => ?_)
    refine r_iload hx 4 rfl dX11_feed_42 ?_
    obtain ⟨μ21, c20, hf⟩ := f_bd1 hf
    refine r_callV hx (As := [.int a4]) (rest := []) (st1 := []) (c := 7) (i := 0) (TT := T7) (N := 11) MK_X7_append rfl wi_X7_append we_X7_append wm_X11_77 ⟨Nat.le_refl _, Nat.le_refl _⟩ (cX7_append hk e19 c20) e19 (Nat.le_of_ble_eq_true rfl) rfl rfl (Nat.le_of_ble_eq_true rfl) rfl dX11_feed_44 (fun hb22 => ?_)
    refine r_aloadn hx 0 rfl rfl dX11_feed_47 ?_
    refine r_getR hx (c' := 7) (i' := 0) FK11_0 e_this rfl wf_X11_10 dX11_feed_48 (fun e23 => ?_)
    refine r_iload hx 5 rfl dX11_feed_51 ?_
    obtain ⟨μ25, c24, hf⟩ := f_bd1 hf
    refine r_callV hx (As := [.int a5]) (rest := []) (st1 := []) (c := 7) (i := 0) (TT := T7) (N := 11) MK_X7_append rfl wi_X7_append we_X7_append wm_X11_77 ⟨Nat.le_refl _, Nat.le_refl _⟩ (cX7_append hk e23 c24) e23 (Nat.le_of_ble_eq_true rfl) rfl rfl (Nat.le_of_ble_eq_true rfl) rfl dX11_feed_53 (fun hb26 => ?_)
    refine r_aloadn hx 0 rfl rfl dX11_feed_56 ?_
    refine r_getR hx (c' := 7) (i' := 0) FK11_0 e_this rfl wf_X11_10 dX11_feed_57 (fun e27 => ?_)
    refine r_getI hx FK7_0 e27 wf_X11_81 dX11_feed_60 ?_
    exact r_iret hx hf dX11_feed_63
  · have hf := (f_ite hf).1 q6
    refine r_iconst hx ci_m1 dX11_feed_12 ?_
    exact r_iret hx hf dX11_feed_13
theorem dX11_back_0 : decode bX11_back 0 = .ok (.iload_n 1, 1) := by decide +kernel
theorem dX11_back_1 : decode bX11_back 1 = .ok (.ifCond .lt 14, 3) := by decide +kernel
theorem dX11_back_4 : decode bX11_back 4 = .ok (.iload_n 1, 1) := by decide +kernel
theorem dX11_back_5 : decode bX11_back 5 = .ok (.aload_n 0, 1) := by decide +kernel
theorem dX11_back_6 : decode bX11_back 6 = .ok (.getfield 10, 3) := by decide +kernel
theorem dX11_back_9 : decode bX11_back 9 = .ok (.getfield 81, 3) := by decide +kernel
theorem dX11_back_12 : decode bX11_back 12 = .ok (.if_icmp .le 5, 3) := by decide +kernel
theorem dX11_back_15 : decode bX11_back 15 = .ok (.iconst (-1), 1) := by decide +kernel
theorem dX11_back_16 : decode bX11_back 16 = .ok (.ireturn, 1) := by decide +kernel
theorem dX11_back_17 : decode bX11_back 17 = .ok (.aload_n 0, 1) := by decide +kernel
theorem dX11_back_18 : decode bX11_back 18 = .ok (.getfield 10, 3) := by decide +kernel
theorem dX11_back_21 : decode bX11_back 21 = .ok (.dup, 1) := by decide +kernel
theorem dX11_back_22 : decode bX11_back 22 = .ok (.getfield 81, 3) := by decide +kernel
theorem dX11_back_25 : decode bX11_back 25 = .ok (.iload_n 1, 1) := by decide +kernel
theorem dX11_back_26 : decode bX11_back 26 = .ok (.isub, 1) := by decide +kernel
theorem dX11_back_27 : decode bX11_back 27 = .ok (.putfield 81, 3) := by decide +kernel
theorem dX11_back_30 : decode bX11_back 30 = .ok (.aload_n 0, 1) := by decide +kernel
theorem dX11_back_31 : decode bX11_back 31 = .ok (.getfield 10, 3) := by decide +kernel
theorem dX11_back_34 : decode bX11_back 34 = .ok (.getfield 81, 3) := by decide +kernel
theorem dX11_back_37 : decode bX11_back 37 = .ok (.ireturn, 1) := by decide +kernel
set_option maxRecDepth 20000 in
set_option maxHeartbeats 4000000 in
theorem cX11_back {l : Launch} {k : Kx} {F : Nat} {a1 : Int32} {μ μ' : Mm} {r : Int32} (hk : kok k) (e_this : kex k 11 0) (hf : fX11_back F a1 μ = some (r, μ')) : MM l k 0 yX11_back bX11_back 2 (some .int) [.ref (kad k 11 0), .int a1] μ (some (.int r)) μ' := by
  refine MM.of (lv := [(0, .ref (kad k 11 0)), (1, .int a1)]) (plainFor_of_name (by decide)) hk (Nat.le_of_ble_eq_true rfl) rfl (fun z hl hx => ?_)
  subst hl
  have hx : Ok z k bX11_back 2 "RopeDance" (some .int) 0 (0, 0) := hx
  unfold fX11_back at hf
  refine r_iloadn hx 1 rfl rfl dX11_back_0 ?_
  refine r_iflt (tgt := 15) hx rfl dX11_back_1 (fun q1 => ?_) (fun q1 => ?_)
  · have hf := (f_ite hf).1 q1
    refine r_iconst hx ci_m1 dX11_back_15 ?_
    exact r_iret hx hf dX11_back_16
  · have hf := (f_ite hf).2 q1
    refine r_iloadn hx 1 rfl rfl dX11_back_4 ?_
    refine r_aloadn hx 0 rfl rfl dX11_back_5 ?_
    refine r_getR hx (c' := 7) (i' := 0) FK11_0 e_this rfl wf_X11_10 dX11_back_6 (fun e2 => ?_)
    refine r_getI hx FK7_0 e2 wf_X11_81 dX11_back_9 ?_
    refine r_icle (tgt := 17) hx rfl dX11_back_12 (fun q3 => ?_) (fun q3 => ?_)
    · have hf := (f_ite hf).1 q3
      refine r_aloadn hx 0 rfl rfl dX11_back_17 ?_
      refine r_getR hx (c' := 7) (i' := 0) FK11_0 e_this rfl wf_X11_10 dX11_back_18 (fun e4 => ?_)
      refine r_dup hx rfl dX11_back_21 ?_
      refine r_getI hx FK7_0 e4 wf_X11_81 dX11_back_22 ?_
      refine r_iloadn hx 1 rfl rfl dX11_back_25 ?_
      refine r_isub hx dX11_back_26 ?_
      refine r_putI (ty := .int) hx FK7_0 (fun T N h => by cases h; rfl) e4 wf_X11_81 (by decide +kernel) rfl rfl dX11_back_27 ?_
      refine r_aloadn hx 0 rfl rfl dX11_back_30 ?_
      refine r_getR hx (c' := 7) (i' := 0) FK11_0 e_this rfl wf_X11_10 dX11_back_31 (fun e5 => ?_)
      refine r_getI hx FK7_0 e5 wf_X11_81 dX11_back_34 ?_
      exact r_iret hx hf dX11_back_37
    · have hf := (f_ite hf).2 q3
      refine r_iconst hx ci_m1 dX11_back_15 ?_
      exact r_iret hx hf dX11_back_16
theorem dX11_takeDraft_0 : decode bX11_takeDraft 0 = .ok (.aload_n 0, 1) := by decide +kernel
theorem dX11_takeDraft_1 : decode bX11_takeDraft 1 = .ok (.getfield 19, 3) := by decide +kernel
theorem dX11_takeDraft_4 : decode bX11_takeDraft 4 = .ok (.astore_n 1, 1) := by decide +kernel
theorem dX11_takeDraft_5 : decode bX11_takeDraft 5 = .ok (.aload_n 0, 1) := by decide +kernel
theorem dX11_takeDraft_6 : decode bX11_takeDraft 6 = .ok (.aload_n 0, 1) := by decide +kernel
theorem dX11_takeDraft_7 : decode bX11_takeDraft 7 = .ok (.getfield 23, 3) := by decide +kernel
theorem dX11_takeDraft_10 : decode bX11_takeDraft 10 = .ok (.putfield 19, 3) := by decide +kernel
theorem dX11_takeDraft_13 : decode bX11_takeDraft 13 = .ok (.aload_n 0, 1) := by decide +kernel
theorem dX11_takeDraft_14 : decode bX11_takeDraft 14 = .ok (.aload_n 1, 1) := by decide +kernel
theorem dX11_takeDraft_15 : decode bX11_takeDraft 15 = .ok (.putfield 23, 3) := by decide +kernel
theorem dX11_takeDraft_18 : decode bX11_takeDraft 18 = .ok (.aload_n 0, 1) := by decide +kernel
theorem dX11_takeDraft_19 : decode bX11_takeDraft 19 = .ok (.getfield 38, 3) := by decide +kernel
theorem dX11_takeDraft_22 : decode bX11_takeDraft 22 = .ok (.aload_n 0, 1) := by decide +kernel
theorem dX11_takeDraft_23 : decode bX11_takeDraft 23 = .ok (.getfield 19, 3) := by decide +kernel
theorem dX11_takeDraft_26 : decode bX11_takeDraft 26 = .ok (.invokevirtual 326, 3) := by decide +kernel
theorem dX11_takeDraft_29 : decode bX11_takeDraft 29 = .ok (.aload_n 0, 1) := by decide +kernel
theorem dX11_takeDraft_30 : decode bX11_takeDraft 30 = .ok (.getfield 45, 3) := by decide +kernel
theorem dX11_takeDraft_33 : decode bX11_takeDraft 33 = .ok (.invokevirtual 329, 3) := by decide +kernel
theorem dX11_takeDraft_36 : decode bX11_takeDraft 36 = .ok (.aload_n 0, 1) := by decide +kernel
theorem dX11_takeDraft_37 : decode bX11_takeDraft 37 = .ok (.getfield 52, 3) := by decide +kernel
theorem dX11_takeDraft_40 : decode bX11_takeDraft 40 = .ok (.iconst 0, 1) := by decide +kernel
theorem dX11_takeDraft_41 : decode bX11_takeDraft 41 = .ok (.putfield 277, 3) := by decide +kernel
theorem dX11_takeDraft_44 : decode bX11_takeDraft 44 = .ok (.aload_n 0, 1) := by decide +kernel
theorem dX11_takeDraft_45 : decode bX11_takeDraft 45 = .ok (.getfield 330, 3) := by decide +kernel
theorem dX11_takeDraft_48 : decode bX11_takeDraft 48 = .ok (.ifnull 10, 3) := by decide +kernel
theorem dX11_takeDraft_51 : decode bX11_takeDraft 51 = .ok (.aload_n 0, 1) := by decide +kernel
theorem dX11_takeDraft_52 : decode bX11_takeDraft 52 = .ok (.getfield 330, 3) := by decide +kernel
theorem dX11_takeDraft_55 : decode bX11_takeDraft 55 = .ok (.invokevirtual 334, 3) := by decide +kernel
theorem dX11_takeDraft_58 : decode bX11_takeDraft 58 = .ok (.return_, 1) := by decide +kernel
set_option maxRecDepth 20000 in
set_option maxHeartbeats 4000000 in
theorem cX11_takeDraft {l : Launch} {k : Kx} {F : Nat} {μ μ' : Mm} (hk : kok k) (e_this : kex k 11 0) (hf : fX11_takeDraft F μ = some μ') : MM l k 4 yX11_takeDraft bX11_takeDraft 2 none [.ref (kad k 11 0)] μ none μ' := by
  refine MM.of (lv := [(0, .ref (kad k 11 0))]) (plainFor_of_name (by decide)) hk (Nat.le_of_ble_eq_true rfl) rfl (fun z hl hx => ?_)
  subst hl
  have hx : Ok z k bX11_takeDraft 2 "RopeDance" none 4 (0, 0) := hx
  unfold fX11_takeDraft at hf
  refine r_aloadn hx 0 rfl rfl dX11_takeDraft_0 ?_
  refine r_getT hx FK11_2 e_this (by decide) wf_X11_19 dX11_takeDraft_1 (fun e1 => ?_)
  refine r_astoren (lv' := [(1, .ref (kad k 8 (tx (gi μ 11 0 2)))), (0, .ref (kad k 11 0))]) hx rfl (Nat.le_of_ble_eq_true rfl) rfl dX11_takeDraft_4 ?_
  refine r_aloadn hx 1 rfl rfl dX11_takeDraft_5 ?_
  refine r_aloadn hx 1 rfl rfl dX11_takeDraft_6 ?_
  refine r_getT hx FK11_3 e_this (by decide) wf_X11_23 dX11_takeDraft_7 (fun e2 => ?_)
  refine r_putT (v := (gi μ 11 0 3)) hx FK11_2 (fun T N h => by cases h; rfl) e_this wf_X11_19 (by decide +kernel) rfl dX11_takeDraft_10 ?_
  refine r_aloadn hx 1 rfl rfl dX11_takeDraft_13 ?_
  refine r_aloadn hx 0 rfl rfl dX11_takeDraft_14 ?_
  refine r_putT (v := (gi μ 11 0 2)) hx FK11_3 (fun T N h => by cases h; rfl) e_this wf_X11_23 (by decide +kernel) rfl dX11_takeDraft_15 ?_
  refine r_aloadn hx 1 rfl rfl dX11_takeDraft_18 ?_
  refine r_getR hx (c' := 0) (i' := 0) FK11_4 e_this rfl wf_X11_38 dX11_takeDraft_19 (fun e3 => ?_)
  refine r_aloadn hx 1 rfl rfl dX11_takeDraft_22 ?_
  refine r_getT hx FK11_2 e_this (by decide) wf_X11_19 dX11_takeDraft_23 (fun e4 => ?_)
  obtain ⟨μ6, c5, hf⟩ := f_bd1 hf
  refine r_callV hx (As := [.ref (kad k 8 (tx (gi (si (si μ 11 0 2 (gi μ 11 0 3)) 11 0 3 (gi μ 11 0 2)) 11 0 2)))]) (rest := []) (st1 := []) (c := 0) (i := 0) (TT := T0) (N := 3) MK_X0_begin rfl wi_X0_begin we_X0_begin wm_X11_326 ⟨Nat.le_refl _, Nat.le_refl _⟩ (cX0_begin hk e3 e4 c5) e3 (Nat.le_of_ble_eq_true rfl) rfl rfl (Nat.le_of_ble_eq_true rfl) rfl dX11_takeDraft_26 (fun hb7 => ?_)
  refine r_aloadn hx 1 rfl rfl dX11_takeDraft_29 ?_
  refine r_getR hx (c' := 1) (i' := 0) FK11_5 e_this rfl wf_X11_45 dX11_takeDraft_30 (fun e8 => ?_)
  obtain ⟨μ10, c9, hf⟩ := f_bd1 hf
  refine r_callV hx (As := []) (rest := []) (st1 := []) (c := 1) (i := 0) (TT := T1) (N := 5) MK_X1_clear rfl wi_X1_clear we_X1_clear wm_X11_329 ⟨Nat.le_refl _, Nat.le_refl _⟩ (cX1_clear hk e8 c9) e8 (Nat.le_of_ble_eq_true rfl) rfl rfl (Nat.le_of_ble_eq_true rfl) rfl dX11_takeDraft_33 (fun hb11 => ?_)
  refine r_aloadn hx 1 rfl rfl dX11_takeDraft_36 ?_
  refine r_getR hx (c' := 9) (i' := 0) FK11_6 e_this rfl wf_X11_52 dX11_takeDraft_37 (fun e12 => ?_)
  refine r_iconst hx ci_0 dX11_takeDraft_40 ?_
  refine r_putI (ty := .int) hx FK9_0 (fun T N h => by cases h; rfl) e12 wf_X11_277 (by decide +kernel) rfl rfl dX11_takeDraft_41 ?_
  refine r_aloadn hx 1 rfl rfl dX11_takeDraft_44 ?_
  refine r_getN hx (c' := 4) (i' := 0) FK11_10 e_this rfl wf_X11_330 dX11_takeDraft_45 (fun q13 => ?_) (fun q13 e14 => ?_)
  · have hf := (f_ite hf).1 q13
    refine r_nullN (tgt := 58) hx rfl dX11_takeDraft_48 ?_
    exact r_vret hx hf dX11_takeDraft_58
  · have hf := (f_ite hf).2 q13
    refine r_nullS hx dX11_takeDraft_48 ?_
    refine r_aloadn hx 1 rfl rfl dX11_takeDraft_51 ?_
    refine r_getN hx (c' := 4) (i' := 0) FK11_10 e_this rfl wf_X11_330 dX11_takeDraft_52 (fun q15 => absurd q15 q13) (fun _ e16 => ?_)
    obtain ⟨μ18, c17, hf⟩ := f_bd1 hf
    refine r_callV hx (As := []) (rest := []) (st1 := []) (c := 4) (i := 0) (TT := T4) (N := 5) MK_X4_startAnew rfl wi_X4_startAnew we_X4_startAnew wm_X11_334 ⟨Nat.le_refl _, Nat.le_refl _⟩ (cX4_startAnew hk e16 c17) e16 (Nat.le_of_ble_eq_true rfl) rfl rfl (Nat.le_of_ble_eq_true rfl) rfl dX11_takeDraft_55 (fun hb19 => ?_)
    exact r_vret hx hf dX11_takeDraft_58
theorem dX11_read_0 : decode bX11_read 0 = .ok (.aload_n 0, 1) := by decide +kernel
theorem dX11_read_1 : decode bX11_read 1 = .ok (.getfield 31, 3) := by decide +kernel
theorem dX11_read_4 : decode bX11_read 4 = .ok (.aload_n 0, 1) := by decide +kernel
theorem dX11_read_5 : decode bX11_read 5 = .ok (.getfield 23, 3) := by decide +kernel
theorem dX11_read_8 : decode bX11_read 8 = .ok (.invokevirtual 85, 3) := by decide +kernel
theorem dX11_read_11 : decode bX11_read 11 = .ok (.aload_n 0, 1) := by decide +kernel
theorem dX11_read_12 : decode bX11_read 12 = .ok (.getfield 10, 3) := by decide +kernel
theorem dX11_read_15 : decode bX11_read 15 = .ok (.iconst 0, 1) := by decide +kernel
theorem dX11_read_16 : decode bX11_read 16 = .ok (.putfield 81, 3) := by decide +kernel
theorem dX11_read_19 : decode bX11_read 19 = .ok (.aload_n 0, 1) := by decide +kernel
theorem dX11_read_20 : decode bX11_read 20 = .ok (.getfield 31, 3) := by decide +kernel
theorem dX11_read_23 : decode bX11_read 23 = .ok (.getfield 89, 3) := by decide +kernel
theorem dX11_read_26 : decode bX11_read 26 = .ok (.ifCond .ne 7, 3) := by decide +kernel
theorem dX11_read_29 : decode bX11_read 29 = .ok (.aload_n 0, 1) := by decide +kernel
theorem dX11_read_30 : decode bX11_read 30 = .ok (.invokevirtual 92, 3) := by decide +kernel
theorem dX11_read_33 : decode bX11_read 33 = .ok (.aload_n 0, 1) := by decide +kernel
theorem dX11_read_34 : decode bX11_read 34 = .ok (.getfield 31, 3) := by decide +kernel
theorem dX11_read_37 : decode bX11_read 37 = .ok (.getfield 89, 3) := by decide +kernel
theorem dX11_read_40 : decode bX11_read 40 = .ok (.ireturn, 1) := by decide +kernel
set_option maxRecDepth 20000 in
set_option maxHeartbeats 4000000 in
theorem cX11_read {l : Launch} {k : Kx} {F : Nat} {μ μ' : Mm} {r : Int32} (hk : kok k) (e_this : kex k 11 0) (hf : fX11_read F μ = some (r, μ')) : MM l k 9 yX11_read bX11_read 1 (some .int) [.ref (kad k 11 0)] μ (some (.int r)) μ' := by
  refine MM.of (lv := [(0, .ref (kad k 11 0))]) (plainFor_of_name (by decide)) hk (Nat.le_of_ble_eq_true rfl) rfl (fun z hl hx => ?_)
  subst hl
  have hx : Ok z k bX11_read 1 "RopeDance" (some .int) 9 (0, 0) := hx
  unfold fX11_read at hf
  refine r_aloadn hx 0 rfl rfl dX11_read_0 ?_
  refine r_getR hx (c' := 2) (i' := 0) FK11_1 e_this rfl wf_X11_31 dX11_read_1 (fun e1 => ?_)
  refine r_aloadn hx 0 rfl rfl dX11_read_4 ?_
  refine r_getT hx FK11_3 e_this (by decide) wf_X11_23 dX11_read_5 (fun e2 => ?_)
  obtain ⟨μ4, c3, hf⟩ := f_bd1 hf
  refine r_callV hx (As := [.ref (kad k 8 (tx (gi μ 11 0 3)))]) (rest := []) (st1 := []) (c := 2) (i := 0) (TT := T2) (N := 10) MK_X2_readInto rfl wi_X2_readInto we_X2_readInto wm_X11_85 ⟨Nat.le_refl _, Nat.le_refl _⟩ (cX2_readInto hk e1 e2 c3) e1 (Nat.le_of_ble_eq_true rfl) rfl rfl (Nat.le_of_ble_eq_true rfl) rfl dX11_read_8 (fun hb5 => ?_)
  refine r_aloadn hx 0 rfl rfl dX11_read_11 ?_
  refine r_getR hx (c' := 7) (i' := 0) FK11_0 e_this rfl wf_X11_10 dX11_read_12 (fun e6 => ?_)
  refine r_iconst hx ci_0 dX11_read_15 ?_
  refine r_putI (ty := .int) hx FK7_0 (fun T N h => by cases h; rfl) e6 wf_X11_81 (by decide +kernel) rfl rfl dX11_read_16 ?_
  refine r_aloadn hx 0 rfl rfl dX11_read_19 ?_
  refine r_getR hx (c' := 2) (i' := 0) FK11_1 e_this rfl wf_X11_31 dX11_read_20 (fun e7 => ?_)
  refine r_getI hx FK2_0 e7 wf_X11_89 dX11_read_23 ?_
  refine r_ifne (tgt := 33) hx rfl dX11_read_26 (fun q8 => ?_) (fun q8 => ?_)
  · have hf := (f_ite hf).2 q8
    refine r_aloadn hx 0 rfl rfl dX11_read_33 ?_
    refine r_getR hx (c' := 2) (i' := 0) FK11_1 e_this rfl wf_X11_31 dX11_read_34 (fun e9 => ?_)
    refine r_getI hx FK2_0 e9 wf_X11_89 dX11_read_37 ?_
    exact r_iret hx hf dX11_read_40
  · have hf := (f_ite hf).1 q8
    refine r_aloadn hx 0 rfl rfl dX11_read_29 ?_
    obtain ⟨μ11, c10, hf⟩ := f_bd1 hf
    refine r_callV hx (As := []) (rest := []) (st1 := []) (c := 11) (i := 0) (TT := T11) (N := 12) MK_X11_takeDraft rfl wi_X11_takeDraft we_X11_takeDraft wm_X11_92 ⟨Nat.le_refl _, Nat.le_refl _⟩ (cX11_takeDraft hk e_this c10) e_this (Nat.le_of_ble_eq_true rfl) rfl rfl (Nat.le_of_ble_eq_true rfl) rfl dX11_read_30 (fun hb12 => ?_)
    refine r_aloadn hx 0 rfl rfl dX11_read_33 ?_
    refine r_getR hx (c' := 2) (i' := 0) FK11_1 e_this rfl wf_X11_31 dX11_read_34 (fun e13 => ?_)
    refine r_getI hx FK2_0 e13 wf_X11_89 dX11_read_37 ?_
    exact r_iret hx hf dX11_read_40
theorem dX11_place_0 : decode bX11_place 0 = .ok (.aload_n 0, 1) := by decide +kernel
theorem dX11_place_1 : decode bX11_place 1 = .ok (.getfield 31, 3) := by decide +kernel
theorem dX11_place_4 : decode bX11_place 4 = .ok (.getfield 95, 3) := by decide +kernel
theorem dX11_place_7 : decode bX11_place 7 = .ok (.ireturn, 1) := by decide +kernel
set_option maxRecDepth 20000 in
set_option maxHeartbeats 4000000 in
theorem cX11_place {l : Launch} {k : Kx} {F : Nat} {μ μ' : Mm} {r : Int32} (hk : kok k) (e_this : kex k 11 0) (hf : fX11_place F μ = some (r, μ')) : MM l k 0 yX11_place bX11_place 1 (some .int) [.ref (kad k 11 0)] μ (some (.int r)) μ' := by
  refine MM.of (lv := [(0, .ref (kad k 11 0))]) (plainFor_of_name (by decide)) hk (Nat.le_of_ble_eq_true rfl) rfl (fun z hl hx => ?_)
  subst hl
  have hx : Ok z k bX11_place 1 "RopeDance" (some .int) 0 (0, 0) := hx
  unfold fX11_place at hf
  refine r_aloadn hx 0 rfl rfl dX11_place_0 ?_
  refine r_getR hx (c' := 2) (i' := 0) FK11_1 e_this rfl wf_X11_31 dX11_place_1 (fun e1 => ?_)
  refine r_getI hx FK2_1 e1 wf_X11_95 dX11_place_4 ?_
  exact r_iret hx hf dX11_place_7
theorem dX11_squareAt_0 : decode bX11_squareAt 0 = .ok (.iload_n 1, 1) := by decide +kernel
theorem dX11_squareAt_1 : decode bX11_squareAt 1 = .ok (.ifCond .lt 26, 3) := by decide +kernel
theorem dX11_squareAt_4 : decode bX11_squareAt 4 = .ok (.iload_n 1, 1) := by decide +kernel
theorem dX11_squareAt_5 : decode bX11_squareAt 5 = .ok (.aload_n 0, 1) := by decide +kernel
theorem dX11_squareAt_6 : decode bX11_squareAt 6 = .ok (.getfield 19, 3) := by decide +kernel
theorem dX11_squareAt_9 : decode bX11_squareAt 9 = .ok (.getfield 301, 3) := by decide +kernel
theorem dX11_squareAt_12 : decode bX11_squareAt 12 = .ok (.if_icmp .ge 15, 3) := by decide +kernel
theorem dX11_squareAt_15 : decode bX11_squareAt 15 = .ok (.aload_n 0, 1) := by decide +kernel
theorem dX11_squareAt_16 : decode bX11_squareAt 16 = .ok (.getfield 38, 3) := by decide +kernel
theorem dX11_squareAt_19 : decode bX11_squareAt 19 = .ok (.getfield 337, 3) := by decide +kernel
theorem dX11_squareAt_22 : decode bX11_squareAt 22 = .ok (.iload_n 1, 1) := by decide +kernel
theorem dX11_squareAt_23 : decode bX11_squareAt 23 = .ok (.aaload, 1) := by decide +kernel
theorem dX11_squareAt_24 : decode bX11_squareAt 24 = .ok (.goto 4, 3) := by decide +kernel
theorem dX11_squareAt_27 : decode bX11_squareAt 27 = .ok (.aconst_null, 1) := by decide +kernel
theorem dX11_squareAt_28 : decode bX11_squareAt 28 = .ok (.areturn, 1) := by decide +kernel
set_option maxRecDepth 20000 in
set_option maxHeartbeats 4000000 in
theorem cX11_squareAt {l : Launch} {k : Kx} {F : Nat} {a1 : Int32} {μ μ' : Mm} {r : Option Nat} (hk : kok k) (e_this : kex k 11 0) (hf : fX11_squareAt F a1 μ = some (r, μ')) : MM l k 0 yX11_squareAt bX11_squareAt 2 (some (.object "RopeDance$Square")) [.ref (kad k 11 0), .int a1] μ (some (rp k 5 r)) μ' := by
  refine MM.of (lv := [(0, .ref (kad k 11 0)), (1, .int a1)]) (plainFor_of_name (by decide)) hk (Nat.le_of_ble_eq_true rfl) rfl (fun z hl hx => ?_)
  subst hl
  have hx : Ok z k bX11_squareAt 2 "RopeDance" (some (.object "RopeDance$Square")) 0 (0, 0) := hx
  unfold fX11_squareAt at hf
  refine r_iloadn hx 1 rfl rfl dX11_squareAt_0 ?_
  refine r_iflt (tgt := 27) hx rfl dX11_squareAt_1 (fun q1 => ?_) (fun q1 => ?_)
  · have hf := (f_ite hf).1 q1
    refine r_null hx dX11_squareAt_27 ?_
    exact r_aret hx rfl hf dX11_squareAt_28
  · have hf := (f_ite hf).2 q1
    refine r_iloadn hx 1 rfl rfl dX11_squareAt_4 ?_
    refine r_aloadn hx 0 rfl rfl dX11_squareAt_5 ?_
    refine r_getT hx FK11_2 e_this (by decide) wf_X11_19 dX11_squareAt_6 (fun e2 => ?_)
    refine r_getI hx FK8_0 e2 wf_X11_301 dX11_squareAt_9 ?_
    refine r_icge (tgt := 27) hx rfl dX11_squareAt_12 (fun q3 => ?_) (fun q3 => ?_)
    · have hf := (f_ite hf).1 q3
      refine r_null hx dX11_squareAt_27 ?_
      exact r_aret hx rfl hf dX11_squareAt_28
    · have hf := (f_ite hf).2 q3
      refine r_aloadn hx 0 rfl rfl dX11_squareAt_15 ?_
      refine r_getR hx (c' := 0) (i' := 0) FK11_4 e_this rfl wf_X11_38 dX11_squareAt_16 (fun e4 => ?_)
      refine r_getR hx (c' := 20) (i' := 0) FK0_0 e4 rfl wf_X11_337 dX11_squareAt_19 (fun e5 => ?_)
      refine r_iloadn hx 1 rfl rfl dX11_squareAt_22 ?_
      obtain ⟨b6, hf⟩ := f_chk hf
      refine r_aald hx (c' := 5) (i' := (a1.toNatClampNeg)) (by decide) (by decide) (by decide) e5 b6 rfl rfl dX11_squareAt_23 (fun e7 => ?_)
      refine r_goto (tgt := 28) hx rfl dX11_squareAt_24 ?_
      exact r_aret hx rfl hf dX11_squareAt_28
theorem dX11_square_0 : decode bX11_square 0 = .ok (.aload_n 0, 1) := by decide +kernel
theorem dX11_square_1 : decode bX11_square 1 = .ok (.iload_n 1, 1) := by decide +kernel
theorem dX11_square_2 : decode bX11_square 2 = .ok (.invokevirtual 98, 3) := by decide +kernel
theorem dX11_square_5 : decode bX11_square 5 = .ok (.astore_n 3, 1) := by decide +kernel
theorem dX11_square_6 : decode bX11_square 6 = .ok (.aload_n 3, 1) := by decide +kernel
theorem dX11_square_7 : decode bX11_square 7 = .ok (.ifnonnull 7, 3) := by decide +kernel
theorem dX11_square_10 : decode bX11_square 10 = .ok (.sipush (-1000), 3) := by decide +kernel
theorem dX11_square_13 : decode bX11_square 13 = .ok (.ireturn, 1) := by decide +kernel
theorem dX11_square_14 : decode bX11_square 14 = .ok (.iload_n 2, 1) := by decide +kernel
theorem dX11_square_15 : decode bX11_square 15 = .ok (.tableswitch 136 0 8 #[49, 54, 59, 64, 69, 74, 93, 112, 131], 49) := by decide +kernel
theorem dX11_square_64 : decode bX11_square 64 = .ok (.aload_n 3, 1) := by decide +kernel
theorem dX11_square_65 : decode bX11_square 65 = .ok (.getfield 102, 3) := by decide +kernel
theorem dX11_square_68 : decode bX11_square 68 = .ok (.ireturn, 1) := by decide +kernel
theorem dX11_square_69 : decode bX11_square 69 = .ok (.aload_n 3, 1) := by decide +kernel
theorem dX11_square_70 : decode bX11_square 70 = .ok (.getfield 105, 3) := by decide +kernel
theorem dX11_square_73 : decode bX11_square 73 = .ok (.ireturn, 1) := by decide +kernel
theorem dX11_square_74 : decode bX11_square 74 = .ok (.aload_n 3, 1) := by decide +kernel
theorem dX11_square_75 : decode bX11_square 75 = .ok (.invokevirtual 108, 3) := by decide +kernel
theorem dX11_square_78 : decode bX11_square 78 = .ok (.ireturn, 1) := by decide +kernel
theorem dX11_square_79 : decode bX11_square 79 = .ok (.aload_n 3, 1) := by decide +kernel
theorem dX11_square_80 : decode bX11_square 80 = .ok (.invokevirtual 112, 3) := by decide +kernel
theorem dX11_square_83 : decode bX11_square 83 = .ok (.ireturn, 1) := by decide +kernel
theorem dX11_square_84 : decode bX11_square 84 = .ok (.aload_n 3, 1) := by decide +kernel
theorem dX11_square_85 : decode bX11_square 85 = .ok (.getfield 115, 3) := by decide +kernel
theorem dX11_square_88 : decode bX11_square 88 = .ok (.ireturn, 1) := by decide +kernel
theorem dX11_square_89 : decode bX11_square 89 = .ok (.aload_n 0, 1) := by decide +kernel
theorem dX11_square_90 : decode bX11_square 90 = .ok (.getfield 19, 3) := by decide +kernel
theorem dX11_square_93 : decode bX11_square 93 = .ok (.iconst 1, 1) := by decide +kernel
theorem dX11_square_94 : decode bX11_square 94 = .ok (.aload_n 3, 1) := by decide +kernel
theorem dX11_square_95 : decode bX11_square 95 = .ok (.iload_n 1, 1) := by decide +kernel
theorem dX11_square_96 : decode bX11_square 96 = .ok (.aload_n 0, 1) := by decide +kernel
theorem dX11_square_97 : decode bX11_square 97 = .ok (.getfield 38, 3) := by decide +kernel
theorem dX11_square_100 : decode bX11_square 100 = .ok (.getfield 118, 3) := by decide +kernel
theorem dX11_square_103 : decode bX11_square 103 = .ok (.iconst 0, 1) := by decide +kernel
theorem dX11_square_104 : decode bX11_square 104 = .ok (.invokevirtual 121, 3) := by decide +kernel
theorem dX11_square_107 : decode bX11_square 107 = .ok (.ireturn, 1) := by decide +kernel
theorem dX11_square_108 : decode bX11_square 108 = .ok (.aload_n 0, 1) := by decide +kernel
theorem dX11_square_109 : decode bX11_square 109 = .ok (.getfield 19, 3) := by decide +kernel
theorem dX11_square_112 : decode bX11_square 112 = .ok (.iconst 2, 1) := by decide +kernel
theorem dX11_square_113 : decode bX11_square 113 = .ok (.aload_n 3, 1) := by decide +kernel
theorem dX11_square_114 : decode bX11_square 114 = .ok (.iload_n 1, 1) := by decide +kernel
theorem dX11_square_115 : decode bX11_square 115 = .ok (.aload_n 0, 1) := by decide +kernel
theorem dX11_square_116 : decode bX11_square 116 = .ok (.getfield 38, 3) := by decide +kernel
theorem dX11_square_119 : decode bX11_square 119 = .ok (.getfield 118, 3) := by decide +kernel
theorem dX11_square_122 : decode bX11_square 122 = .ok (.iconst 0, 1) := by decide +kernel
theorem dX11_square_123 : decode bX11_square 123 = .ok (.invokevirtual 121, 3) := by decide +kernel
theorem dX11_square_126 : decode bX11_square 126 = .ok (.ireturn, 1) := by decide +kernel
theorem dX11_square_127 : decode bX11_square 127 = .ok (.aload_n 0, 1) := by decide +kernel
theorem dX11_square_128 : decode bX11_square 128 = .ok (.getfield 19, 3) := by decide +kernel
theorem dX11_square_131 : decode bX11_square 131 = .ok (.iconst 3, 1) := by decide +kernel
theorem dX11_square_132 : decode bX11_square 132 = .ok (.aload_n 3, 1) := by decide +kernel
theorem dX11_square_133 : decode bX11_square 133 = .ok (.iload_n 1, 1) := by decide +kernel
theorem dX11_square_134 : decode bX11_square 134 = .ok (.aload_n 0, 1) := by decide +kernel
theorem dX11_square_135 : decode bX11_square 135 = .ok (.getfield 38, 3) := by decide +kernel
theorem dX11_square_138 : decode bX11_square 138 = .ok (.getfield 118, 3) := by decide +kernel
theorem dX11_square_141 : decode bX11_square 141 = .ok (.iconst 0, 1) := by decide +kernel
theorem dX11_square_142 : decode bX11_square 142 = .ok (.invokevirtual 121, 3) := by decide +kernel
theorem dX11_square_145 : decode bX11_square 145 = .ok (.ireturn, 1) := by decide +kernel
theorem dX11_square_146 : decode bX11_square 146 = .ok (.aload_n 3, 1) := by decide +kernel
theorem dX11_square_147 : decode bX11_square 147 = .ok (.getfield 125, 3) := by decide +kernel
theorem dX11_square_150 : decode bX11_square 150 = .ok (.ireturn, 1) := by decide +kernel
theorem dX11_square_151 : decode bX11_square 151 = .ok (.sipush (-1000), 3) := by decide +kernel
theorem dX11_square_154 : decode bX11_square 154 = .ok (.ireturn, 1) := by decide +kernel
set_option maxRecDepth 20000 in
set_option maxHeartbeats 4000000 in
theorem cX11_square {l : Launch} {k : Kx} {F : Nat} {a1 : Int32} {a2 : Int32} {μ μ' : Mm} {r : Int32} (hk : kok k) (e_this : kex k 11 0) (hf : fX11_square F a1 a2 μ = some (r, μ')) : MM l k 4 yX11_square bX11_square 4 (some .int) [.ref (kad k 11 0), .int a1, .int a2] μ (some (.int r)) μ' := by
  refine MM.of (lv := [(0, .ref (kad k 11 0)), (1, .int a1), (2, .int a2)]) (plainFor_of_name (by decide)) hk (Nat.le_of_ble_eq_true rfl) rfl (fun z hl hx => ?_)
  subst hl
  have hx : Ok z k bX11_square 4 "RopeDance" (some .int) 4 (0, 0) := hx
  unfold fX11_square at hf
  refine r_aloadn hx 0 rfl rfl dX11_square_0 ?_
  refine r_iloadn hx 1 rfl rfl dX11_square_1 ?_
  obtain ⟨r3, μ2, c1, hf⟩ := f_bd2 hf
  refine r_callV hx (As := [.int a1]) (rest := []) (st1 := [rp k 5 r3]) (c := 11) (i := 0) (TT := T11) (N := 12) MK_X11_squareAt rfl wi_X11_squareAt we_X11_squareAt wm_X11_98 ⟨Nat.le_refl _, Nat.le_refl _⟩ (cX11_squareAt hk e_this c1) e_this (Nat.le_of_ble_eq_true rfl) rfl rfl (Nat.le_of_ble_eq_true rfl) rfl dX11_square_2 (fun hb4 => ?_)
  cases r3 with
  | none =>
    have hf := f_on hf
    refine r_astorenN (lv' := [(3, .null), (0, .ref (kad k 11 0)), (1, .int a1), (2, .int a2)]) hx rfl (Nat.le_of_ble_eq_true rfl) rfl dX11_square_5 ?_
    refine r_aloadnN hx 0 rfl rfl dX11_square_6 ?_
    refine r_nonnullN hx dX11_square_7 ?_
    refine r_sipush hx cs_m1000 dX11_square_10 ?_
    exact r_iret hx hf dX11_square_13
  | some i5 =>
    have hf := f_os hf
    have e6 : kex k 5 i5 := xX11_squareAt hk e_this c1
    refine r_astoren (lv' := [(3, .ref (kad k 5 i5)), (0, .ref (kad k 11 0)), (1, .int a1), (2, .int a2)]) hx rfl (Nat.le_of_ble_eq_true rfl) rfl dX11_square_5 ?_
    refine r_aloadn hx 0 rfl rfl dX11_square_6 ?_
    refine r_nonnullS (tgt := 14) hx rfl dX11_square_7 ?_
    refine r_iloadn hx 3 rfl rfl dX11_square_14 ?_
    by_cases q7 : a2 = 0
    · have hf := (f_ite hf).1 q7
      refine r_tableIn (off := 49) (tgt := 64) hx (by rw [q7]; decide) (by rw [q7]; decide) (by rw [q7]; rfl) rfl dX11_square_15 ?_
      refine r_aloadn hx 0 rfl rfl dX11_square_64 ?_
      refine r_getI hx FK5_0 e6 wf_X11_102 dX11_square_65 ?_
      exact r_iret hx hf dX11_square_68
    · have hf := (f_ite hf).2 q7
      by_cases q8 : a2 = 1
      · have hf := (f_ite hf).1 q8
        refine r_tableIn (off := 54) (tgt := 69) hx (by rw [q8]; decide) (by rw [q8]; decide) (by rw [q8]; rfl) rfl dX11_square_15 ?_
        refine r_aloadn hx 0 rfl rfl dX11_square_69 ?_
        refine r_getI hx FK5_1 e6 wf_X11_105 dX11_square_70 ?_
        exact r_iret hx hf dX11_square_73
      · have hf := (f_ite hf).2 q8
        by_cases q9 : a2 = 2
        · have hf := (f_ite hf).1 q9
          refine r_tableIn (off := 59) (tgt := 74) hx (by rw [q9]; decide) (by rw [q9]; decide) (by rw [q9]; rfl) rfl dX11_square_15 ?_
          refine r_aloadn hx 0 rfl rfl dX11_square_74 ?_
          obtain ⟨r12, μ11, c10, hf⟩ := f_bd2 hf
          refine r_callV hx (As := []) (rest := []) (st1 := [.int r12]) (c := 5) (i := i5) (TT := T5) (N := 4) MK_X5_crossings rfl wi_X5_crossings we_X5_crossings wm_X11_108 ⟨Nat.le_refl _, Nat.le_refl _⟩ (cX5_crossings hk e6 c10) e6 (Nat.le_of_ble_eq_true rfl) rfl rfl (Nat.le_of_ble_eq_true rfl) rfl dX11_square_75 (fun hb13 => ?_)
          exact r_iret hx hf dX11_square_78
        · have hf := (f_ite hf).2 q9
          by_cases q14 : a2 = 3
          · have hf := (f_ite hf).1 q14
            refine r_tableIn (off := 64) (tgt := 79) hx (by rw [q14]; decide) (by rw [q14]; decide) (by rw [q14]; rfl) rfl dX11_square_15 ?_
            refine r_aloadn hx 0 rfl rfl dX11_square_79 ?_
            obtain ⟨r17, μ16, c15, hf⟩ := f_bd2 hf
            refine r_callV hx (As := []) (rest := []) (st1 := [.int r17]) (c := 5) (i := i5) (TT := T5) (N := 4) MK_X5_ends rfl wi_X5_ends we_X5_ends wm_X11_112 ⟨Nat.le_refl _, Nat.le_refl _⟩ (cX5_ends hk e6 c15) e6 (Nat.le_of_ble_eq_true rfl) rfl rfl (Nat.le_of_ble_eq_true rfl) rfl dX11_square_80 (fun hb18 => ?_)
            exact r_iret hx hf dX11_square_83
          · have hf := (f_ite hf).2 q14
            by_cases q19 : a2 = 4
            · have hf := (f_ite hf).1 q19
              refine r_tableIn (off := 69) (tgt := 84) hx (by rw [q19]; decide) (by rw [q19]; decide) (by rw [q19]; rfl) rfl dX11_square_15 ?_
              refine r_aloadn hx 0 rfl rfl dX11_square_84 ?_
              refine r_getI hx FK5_2 e6 wf_X11_115 dX11_square_85 ?_
              exact r_iret hx hf dX11_square_88
            · have hf := (f_ite hf).2 q19
              by_cases q20 : a2 = 5
              · have hf := (f_ite hf).1 q20
                refine r_tableIn (off := 74) (tgt := 89) hx (by rw [q20]; decide) (by rw [q20]; decide) (by rw [q20]; rfl) rfl dX11_square_15 ?_
                refine r_aloadn hx 1 rfl rfl dX11_square_89 ?_
                refine r_getT hx FK11_2 e_this (by decide) wf_X11_19 dX11_square_90 (fun e21 => ?_)
                refine r_iconst hx ci_1 dX11_square_93 ?_
                refine r_aloadn hx 0 rfl rfl dX11_square_94 ?_
                refine r_iloadn hx 2 rfl rfl dX11_square_95 ?_
                refine r_aloadn hx 1 rfl rfl dX11_square_96 ?_
                refine r_getR hx (c' := 0) (i' := 0) FK11_4 e_this rfl wf_X11_38 dX11_square_97 (fun e22 => ?_)
                refine r_getI hx FK0_1 e22 wf_X11_118 dX11_square_100 ?_
                refine r_iconst hx ci_0 dX11_square_103 ?_
                obtain ⟨r25, μ24, c23, hf⟩ := f_bd2 hf
                refine r_callV hx (As := [.int 1, .ref (kad k 5 i5), .int a1, .int (gi μ2 0 0 1), .int 0]) (rest := []) (st1 := [.int r25]) (c := 8) (i := (tx (gi μ2 11 0 2))) (TT := T8) (N := 13) MK_X8_worth rfl wi_X8_worth we_X8_worth wm_X11_121 ⟨Nat.le_refl _, Nat.le_refl _⟩ (cX8_worth hk e21 e6 c23) e21 (Nat.le_of_ble_eq_true rfl) rfl rfl (Nat.le_of_ble_eq_true rfl) rfl dX11_square_104 (fun hb26 => ?_)
                exact r_iret hx hf dX11_square_107
              · have hf := (f_ite hf).2 q20
                by_cases q27 : a2 = 6
                · have hf := (f_ite hf).1 q27
                  refine r_tableIn (off := 93) (tgt := 108) hx (by rw [q27]; decide) (by rw [q27]; decide) (by rw [q27]; rfl) rfl dX11_square_15 ?_
                  refine r_aloadn hx 1 rfl rfl dX11_square_108 ?_
                  refine r_getT hx FK11_2 e_this (by decide) wf_X11_19 dX11_square_109 (fun e28 => ?_)
                  refine r_iconst hx ci_2 dX11_square_112 ?_
                  refine r_aloadn hx 0 rfl rfl dX11_square_113 ?_
                  refine r_iloadn hx 2 rfl rfl dX11_square_114 ?_
                  refine r_aloadn hx 1 rfl rfl dX11_square_115 ?_
                  refine r_getR hx (c' := 0) (i' := 0) FK11_4 e_this rfl wf_X11_38 dX11_square_116 (fun e29 => ?_)
                  refine r_getI hx FK0_1 e29 wf_X11_118 dX11_square_119 ?_
                  refine r_iconst hx ci_0 dX11_square_122 ?_
                  obtain ⟨r32, μ31, c30, hf⟩ := f_bd2 hf
                  refine r_callV hx (As := [.int 2, .ref (kad k 5 i5), .int a1, .int (gi μ2 0 0 1), .int 0]) (rest := []) (st1 := [.int r32]) (c := 8) (i := (tx (gi μ2 11 0 2))) (TT := T8) (N := 13) MK_X8_worth rfl wi_X8_worth we_X8_worth wm_X11_121 ⟨Nat.le_refl _, Nat.le_refl _⟩ (cX8_worth hk e28 e6 c30) e28 (Nat.le_of_ble_eq_true rfl) rfl rfl (Nat.le_of_ble_eq_true rfl) rfl dX11_square_123 (fun hb33 => ?_)
                  exact r_iret hx hf dX11_square_126
                · have hf := (f_ite hf).2 q27
                  by_cases q34 : a2 = 7
                  · have hf := (f_ite hf).1 q34
                    refine r_tableIn (off := 112) (tgt := 127) hx (by rw [q34]; decide) (by rw [q34]; decide) (by rw [q34]; rfl) rfl dX11_square_15 ?_
                    refine r_aloadn hx 1 rfl rfl dX11_square_127 ?_
                    refine r_getT hx FK11_2 e_this (by decide) wf_X11_19 dX11_square_128 (fun e35 => ?_)
                    refine r_iconst hx ci_3 dX11_square_131 ?_
                    refine r_aloadn hx 0 rfl rfl dX11_square_132 ?_
                    refine r_iloadn hx 2 rfl rfl dX11_square_133 ?_
                    refine r_aloadn hx 1 rfl rfl dX11_square_134 ?_
                    refine r_getR hx (c' := 0) (i' := 0) FK11_4 e_this rfl wf_X11_38 dX11_square_135 (fun e36 => ?_)
                    refine r_getI hx FK0_1 e36 wf_X11_118 dX11_square_138 ?_
                    refine r_iconst hx ci_0 dX11_square_141 ?_
                    obtain ⟨r39, μ38, c37, hf⟩ := f_bd2 hf
                    refine r_callV hx (As := [.int 3, .ref (kad k 5 i5), .int a1, .int (gi μ2 0 0 1), .int 0]) (rest := []) (st1 := [.int r39]) (c := 8) (i := (tx (gi μ2 11 0 2))) (TT := T8) (N := 13) MK_X8_worth rfl wi_X8_worth we_X8_worth wm_X11_121 ⟨Nat.le_refl _, Nat.le_refl _⟩ (cX8_worth hk e35 e6 c37) e35 (Nat.le_of_ble_eq_true rfl) rfl rfl (Nat.le_of_ble_eq_true rfl) rfl dX11_square_142 (fun hb40 => ?_)
                    exact r_iret hx hf dX11_square_145
                  · have hf := (f_ite hf).2 q34
                    by_cases q41 : a2 = 8
                    · have hf := (f_ite hf).1 q41
                      refine r_tableIn (off := 131) (tgt := 146) hx (by rw [q41]; decide) (by rw [q41]; decide) (by rw [q41]; rfl) rfl dX11_square_15 ?_
                      refine r_aloadn hx 0 rfl rfl dX11_square_146 ?_
                      refine r_getI hx FK5_3 e6 wf_X11_125 dX11_square_147 ?_
                      exact r_iret hx hf dX11_square_150
                    · have hf := (f_ite hf).2 q41
                      have tq7 := lv_neT (a := 0) q7 (by decide)
                      have tq8 := lv_neT (a := 1) q8 (by decide)
                      have tq9 := lv_neT (a := 2) q9 (by decide)
                      have tq14 := lv_neT (a := 3) q14 (by decide)
                      have tq19 := lv_neT (a := 4) q19 (by decide)
                      have tq20 := lv_neT (a := 5) q20 (by decide)
                      have tq27 := lv_neT (a := 6) q27 (by decide)
                      have tq34 := lv_neT (a := 7) q34 (by decide)
                      have tq41 := lv_neT (a := 8) q41 (by decide)
                      refine r_tableOut (tgt := 151) hx (by omega) rfl dX11_square_15 ?_
                      refine r_sipush hx cs_m1000 dX11_square_151 ?_
                      exact r_iret hx hf dX11_square_154
theorem dX11_figureAt_0 : decode bX11_figureAt 0 = .ok (.iload_n 1, 1) := by decide +kernel
theorem dX11_figureAt_1 : decode bX11_figureAt 1 = .ok (.ifCond .lt 26, 3) := by decide +kernel
theorem dX11_figureAt_4 : decode bX11_figureAt 4 = .ok (.iload_n 1, 1) := by decide +kernel
theorem dX11_figureAt_5 : decode bX11_figureAt 5 = .ok (.aload_n 0, 1) := by decide +kernel
theorem dX11_figureAt_6 : decode bX11_figureAt 6 = .ok (.getfield 19, 3) := by decide +kernel
theorem dX11_figureAt_9 : decode bX11_figureAt 9 = .ok (.getfield 256, 3) := by decide +kernel
theorem dX11_figureAt_12 : decode bX11_figureAt 12 = .ok (.if_icmp .ge 15, 3) := by decide +kernel
theorem dX11_figureAt_15 : decode bX11_figureAt 15 = .ok (.aload_n 0, 1) := by decide +kernel
theorem dX11_figureAt_16 : decode bX11_figureAt 16 = .ok (.getfield 19, 3) := by decide +kernel
theorem dX11_figureAt_19 : decode bX11_figureAt 19 = .ok (.getfield 259, 3) := by decide +kernel
theorem dX11_figureAt_22 : decode bX11_figureAt 22 = .ok (.iload_n 1, 1) := by decide +kernel
theorem dX11_figureAt_23 : decode bX11_figureAt 23 = .ok (.aaload, 1) := by decide +kernel
theorem dX11_figureAt_24 : decode bX11_figureAt 24 = .ok (.goto 4, 3) := by decide +kernel
theorem dX11_figureAt_27 : decode bX11_figureAt 27 = .ok (.aconst_null, 1) := by decide +kernel
theorem dX11_figureAt_28 : decode bX11_figureAt 28 = .ok (.areturn, 1) := by decide +kernel
set_option maxRecDepth 20000 in
set_option maxHeartbeats 4000000 in
theorem cX11_figureAt {l : Launch} {k : Kx} {F : Nat} {a1 : Int32} {μ μ' : Mm} {r : Option Nat} (hk : kok k) (e_this : kex k 11 0) (hf : fX11_figureAt F a1 μ = some (r, μ')) : MM l k 0 yX11_figureAt bX11_figureAt 2 (some (.object "RopeDance$Row")) [.ref (kad k 11 0), .int a1] μ (some (rp k 3 r)) μ' := by
  refine MM.of (lv := [(0, .ref (kad k 11 0)), (1, .int a1)]) (plainFor_of_name (by decide)) hk (Nat.le_of_ble_eq_true rfl) rfl (fun z hl hx => ?_)
  subst hl
  have hx : Ok z k bX11_figureAt 2 "RopeDance" (some (.object "RopeDance$Row")) 0 (0, 0) := hx
  unfold fX11_figureAt at hf
  refine r_iloadn hx 1 rfl rfl dX11_figureAt_0 ?_
  refine r_iflt (tgt := 27) hx rfl dX11_figureAt_1 (fun q1 => ?_) (fun q1 => ?_)
  · have hf := (f_ite hf).1 q1
    refine r_null hx dX11_figureAt_27 ?_
    exact r_aret hx rfl hf dX11_figureAt_28
  · have hf := (f_ite hf).2 q1
    refine r_iloadn hx 1 rfl rfl dX11_figureAt_4 ?_
    refine r_aloadn hx 0 rfl rfl dX11_figureAt_5 ?_
    refine r_getT hx FK11_2 e_this (by decide) wf_X11_19 dX11_figureAt_6 (fun e2 => ?_)
    refine r_getI hx FK8_1 e2 wf_X11_256 dX11_figureAt_9 ?_
    refine r_icge (tgt := 27) hx rfl dX11_figureAt_12 (fun q3 => ?_) (fun q3 => ?_)
    · have hf := (f_ite hf).1 q3
      refine r_null hx dX11_figureAt_27 ?_
      exact r_aret hx rfl hf dX11_figureAt_28
    · have hf := (f_ite hf).2 q3
      refine r_aloadn hx 0 rfl rfl dX11_figureAt_15 ?_
      refine r_getT hx FK11_2 e_this (by decide) wf_X11_19 dX11_figureAt_16 (fun e4 => ?_)
      refine r_getR hx (c' := 35) (i' := (tx (gi μ 11 0 2))) FK8_4 e4 rfl wf_X11_259 dX11_figureAt_19 (fun e5 => ?_)
      refine r_iloadn hx 1 rfl rfl dX11_figureAt_22 ?_
      obtain ⟨b6, hf⟩ := f_chk hf
      refine r_aald hx (c' := 3) (i' := (9 * (tx (gi μ 11 0 2)) + 4 + a1.toNatClampNeg)) (by decide) (by decide) (by decide) e5 b6 rfl rfl dX11_figureAt_23 (fun e7 => ?_)
      refine r_goto (tgt := 28) hx rfl dX11_figureAt_24 ?_
      exact r_aret hx rfl hf dX11_figureAt_28
theorem dX11_figure_0 : decode bX11_figure 0 = .ok (.aload_n 0, 1) := by decide +kernel
theorem dX11_figure_1 : decode bX11_figure 1 = .ok (.iload_n 1, 1) := by decide +kernel
theorem dX11_figure_2 : decode bX11_figure 2 = .ok (.invokevirtual 128, 3) := by decide +kernel
theorem dX11_figure_5 : decode bX11_figure 5 = .ok (.astore_n 3, 1) := by decide +kernel
theorem dX11_figure_6 : decode bX11_figure 6 = .ok (.aload_n 3, 1) := by decide +kernel
theorem dX11_figure_7 : decode bX11_figure 7 = .ok (.ifnull 12, 3) := by decide +kernel
theorem dX11_figure_10 : decode bX11_figure 10 = .ok (.iload_n 2, 1) := by decide +kernel
theorem dX11_figure_11 : decode bX11_figure 11 = .ok (.ifCond .lt 8, 3) := by decide +kernel
theorem dX11_figure_14 : decode bX11_figure 14 = .ok (.iload_n 2, 1) := by decide +kernel
theorem dX11_figure_15 : decode bX11_figure 15 = .ok (.iconst 4, 1) := by decide +kernel
theorem dX11_figure_16 : decode bX11_figure 16 = .ok (.if_icmp .le 6, 3) := by decide +kernel
theorem dX11_figure_19 : decode bX11_figure 19 = .ok (.ldc 132, 2) := by decide +kernel
theorem dX11_figure_21 : decode bX11_figure 21 = .ok (.ireturn, 1) := by decide +kernel
theorem dX11_figure_22 : decode bX11_figure 22 = .ok (.iload_n 2, 1) := by decide +kernel
theorem dX11_figure_23 : decode bX11_figure 23 = .ok (.iconst 4, 1) := by decide +kernel
theorem dX11_figure_24 : decode bX11_figure 24 = .ok (.if_icmp .ne 10, 3) := by decide +kernel
theorem dX11_figure_27 : decode bX11_figure 27 = .ok (.aload_n 3, 1) := by decide +kernel
theorem dX11_figure_28 : decode bX11_figure 28 = .ok (.getfield 133, 3) := by decide +kernel
theorem dX11_figure_31 : decode bX11_figure 31 = .ok (.goto 19, 3) := by decide +kernel
theorem dX11_figure_34 : decode bX11_figure 34 = .ok (.aload_n 3, 1) := by decide +kernel
theorem dX11_figure_35 : decode bX11_figure 35 = .ok (.getfield 136, 3) := by decide +kernel
theorem dX11_figure_38 : decode bX11_figure 38 = .ok (.invokevirtual 139, 3) := by decide +kernel
theorem dX11_figure_41 : decode bX11_figure 41 = .ok (.aload_n 3, 1) := by decide +kernel
theorem dX11_figure_42 : decode bX11_figure 42 = .ok (.getfield 136, 3) := by decide +kernel
theorem dX11_figure_45 : decode bX11_figure 45 = .ok (.iload_n 2, 1) := by decide +kernel
theorem dX11_figure_46 : decode bX11_figure 46 = .ok (.invokevirtual 142, 3) := by decide +kernel
theorem dX11_figure_49 : decode bX11_figure 49 = .ok (.imul, 1) := by decide +kernel
theorem dX11_figure_50 : decode bX11_figure 50 = .ok (.ireturn, 1) := by decide +kernel
set_option maxRecDepth 20000 in
set_option maxHeartbeats 4000000 in
theorem cX11_figure {l : Launch} {k : Kx} {F : Nat} {a1 : Int32} {a2 : Int32} {μ μ' : Mm} {r : Int32} (hk : kok k) (e_this : kex k 11 0) (hf : fX11_figure F a1 a2 μ = some (r, μ')) : MM l k 1 yX11_figure bX11_figure 4 (some .int) [.ref (kad k 11 0), .int a1, .int a2] μ (some (.int r)) μ' := by
  refine MM.of (lv := [(0, .ref (kad k 11 0)), (1, .int a1), (2, .int a2)]) (plainFor_of_name (by decide)) hk (Nat.le_of_ble_eq_true rfl) rfl (fun z hl hx => ?_)
  subst hl
  have hx : Ok z k bX11_figure 4 "RopeDance" (some .int) 1 (0, 0) := hx
  unfold fX11_figure at hf
  refine r_aloadn hx 0 rfl rfl dX11_figure_0 ?_
  refine r_iloadn hx 1 rfl rfl dX11_figure_1 ?_
  obtain ⟨r3, μ2, c1, hf⟩ := f_bd2 hf
  refine r_callV hx (As := [.int a1]) (rest := []) (st1 := [rp k 3 r3]) (c := 11) (i := 0) (TT := T11) (N := 12) MK_X11_figureAt rfl wi_X11_figureAt we_X11_figureAt wm_X11_128 ⟨Nat.le_refl _, Nat.le_refl _⟩ (cX11_figureAt hk e_this c1) e_this (Nat.le_of_ble_eq_true rfl) rfl rfl (Nat.le_of_ble_eq_true rfl) rfl dX11_figure_2 (fun hb4 => ?_)
  cases r3 with
  | none =>
    have hf := f_on hf
    refine r_astorenN (lv' := [(3, .null), (0, .ref (kad k 11 0)), (1, .int a1), (2, .int a2)]) hx rfl (Nat.le_of_ble_eq_true rfl) rfl dX11_figure_5 ?_
    refine r_aloadnN hx 0 rfl rfl dX11_figure_6 ?_
    refine r_nullN (tgt := 19) hx rfl dX11_figure_7 ?_
    refine r_ldc hx wc_X11_132 dX11_figure_19 ?_
    exact r_iret hx hf dX11_figure_21
  | some i5 =>
    have hf := f_os hf
    have e6 : kex k 3 i5 := xX11_figureAt hk e_this c1
    refine r_astoren (lv' := [(3, .ref (kad k 3 i5)), (0, .ref (kad k 11 0)), (1, .int a1), (2, .int a2)]) hx rfl (Nat.le_of_ble_eq_true rfl) rfl dX11_figure_5 ?_
    refine r_aloadn hx 0 rfl rfl dX11_figure_6 ?_
    refine r_nullS hx dX11_figure_7 ?_
    refine r_iloadn hx 3 rfl rfl dX11_figure_10 ?_
    refine r_iflt (tgt := 19) hx rfl dX11_figure_11 (fun q7 => ?_) (fun q7 => ?_)
    · have hf := (f_ite hf).1 q7
      refine r_ldc hx wc_X11_132 dX11_figure_19 ?_
      exact r_iret hx hf dX11_figure_21
    · have hf := (f_ite hf).2 q7
      refine r_iloadn hx 3 rfl rfl dX11_figure_14 ?_
      refine r_iconst hx ci_4 dX11_figure_15 ?_
      refine r_icle (tgt := 22) hx rfl dX11_figure_16 (fun q8 => ?_) (fun q8 => ?_)
      · have hf := (f_ite hf).1 q8
        refine r_iloadn hx 3 rfl rfl dX11_figure_22 ?_
        refine r_iconst hx ci_4 dX11_figure_23 ?_
        refine r_icne (tgt := 34) hx rfl dX11_figure_24 (fun q9 => ?_) (fun q9 => ?_)
        · have hf := (f_ite hf).2 q9
          refine r_aloadn hx 0 rfl rfl dX11_figure_34 ?_
          refine r_getR hx (c' := 6) (i' := i5) FK3_1 e6 rfl wf_X11_136 dX11_figure_35 (fun e10 => ?_)
          obtain ⟨r13, μ12, c11, hf⟩ := f_bd2 hf
          refine r_callV hx (As := []) (rest := []) (st1 := [.int r13]) (c := 6) (i := i5) (TT := T6) (N := 4) MK_X6_sign rfl wi_X6_sign we_X6_sign wm_X11_139 ⟨Nat.le_refl _, Nat.le_refl _⟩ (cX6_sign hk e10 c11) e10 (Nat.le_of_ble_eq_true rfl) rfl rfl (Nat.le_of_ble_eq_true rfl) rfl dX11_figure_38 (fun hb14 => ?_)
          refine r_aloadn hx 0 rfl rfl dX11_figure_41 ?_
          refine r_getR hx (c' := 6) (i' := i5) FK3_1 e6 rfl wf_X11_136 dX11_figure_42 (fun e15 => ?_)
          refine r_iloadn hx 3 rfl rfl dX11_figure_45 ?_
          obtain ⟨r18, μ17, c16, hf⟩ := f_bd2 hf
          refine r_callV hx (As := [.int a2]) (rest := [.int r13]) (st1 := [.int r18, .int r13]) (c := 6) (i := i5) (TT := T6) (N := 4) MK_X6_part rfl wi_X6_part we_X6_part wm_X11_142 ⟨Nat.le_refl _, Nat.le_refl _⟩ (cX6_part hk e15 c16) e15 (Nat.le_of_ble_eq_true rfl) rfl rfl (Nat.le_of_ble_eq_true rfl) rfl dX11_figure_46 (fun hb19 => ?_)
          refine r_imul hx dX11_figure_49 ?_
          exact r_iret hx hf dX11_figure_50
        · have hf := (f_ite hf).1 q9
          refine r_aloadn hx 0 rfl rfl dX11_figure_27 ?_
          refine r_getI hx FK3_0 e6 wf_X11_133 dX11_figure_28 ?_
          refine r_goto (tgt := 50) hx rfl dX11_figure_31 ?_
          exact r_iret hx hf dX11_figure_50
      · have hf := (f_ite hf).2 q8
        refine r_ldc hx wc_X11_132 dX11_figure_19 ?_
        exact r_iret hx hf dX11_figure_21
theorem dX11_tires_0 : decode bX11_tires 0 = .ok (.aload_n 0, 1) := by decide +kernel
theorem dX11_tires_1 : decode bX11_tires 1 = .ok (.iload_n 1, 1) := by decide +kernel
theorem dX11_tires_2 : decode bX11_tires 2 = .ok (.invokevirtual 98, 3) := by decide +kernel
theorem dX11_tires_5 : decode bX11_tires 5 = .ok (.astore_n 3, 1) := by decide +kernel
theorem dX11_tires_6 : decode bX11_tires 6 = .ok (.aload_n 0, 1) := by decide +kernel
theorem dX11_tires_7 : decode bX11_tires 7 = .ok (.iload_n 2, 1) := by decide +kernel
theorem dX11_tires_8 : decode bX11_tires 8 = .ok (.invokevirtual 128, 3) := by decide +kernel
theorem dX11_tires_11 : decode bX11_tires 11 = .ok (.astore 4, 2) := by decide +kernel
theorem dX11_tires_13 : decode bX11_tires 13 = .ok (.aload_n 3, 1) := by decide +kernel
theorem dX11_tires_14 : decode bX11_tires 14 = .ok (.ifnull 8, 3) := by decide +kernel
theorem dX11_tires_17 : decode bX11_tires 17 = .ok (.aload 4, 2) := by decide +kernel
theorem dX11_tires_19 : decode bX11_tires 19 = .ok (.ifnonnull 5, 3) := by decide +kernel
theorem dX11_tires_22 : decode bX11_tires 22 = .ok (.iconst (-1), 1) := by decide +kernel
theorem dX11_tires_23 : decode bX11_tires 23 = .ok (.ireturn, 1) := by decide +kernel
theorem dX11_tires_24 : decode bX11_tires 24 = .ok (.aload_n 0, 1) := by decide +kernel
theorem dX11_tires_25 : decode bX11_tires 25 = .ok (.getfield 19, 3) := by decide +kernel
theorem dX11_tires_28 : decode bX11_tires 28 = .ok (.iconst 0, 1) := by decide +kernel
theorem dX11_tires_29 : decode bX11_tires 29 = .ok (.aload_n 3, 1) := by decide +kernel
theorem dX11_tires_30 : decode bX11_tires 30 = .ok (.iload_n 1, 1) := by decide +kernel
theorem dX11_tires_31 : decode bX11_tires 31 = .ok (.aload_n 0, 1) := by decide +kernel
theorem dX11_tires_32 : decode bX11_tires 32 = .ok (.getfield 38, 3) := by decide +kernel
theorem dX11_tires_35 : decode bX11_tires 35 = .ok (.getfield 118, 3) := by decide +kernel
theorem dX11_tires_38 : decode bX11_tires 38 = .ok (.aload 4, 2) := by decide +kernel
theorem dX11_tires_40 : decode bX11_tires 40 = .ok (.getfield 133, 3) := by decide +kernel
theorem dX11_tires_43 : decode bX11_tires 43 = .ok (.invokevirtual 121, 3) := by decide +kernel
theorem dX11_tires_46 : decode bX11_tires 46 = .ok (.ireturn, 1) := by decide +kernel
set_option maxRecDepth 20000 in
set_option maxHeartbeats 4000000 in
theorem cX11_tires {l : Launch} {k : Kx} {F : Nat} {a1 : Int32} {a2 : Int32} {μ μ' : Mm} {r : Int32} (hk : kok k) (e_this : kex k 11 0) (hf : fX11_tires F a1 a2 μ = some (r, μ')) : MM l k 4 yX11_tires bX11_tires 5 (some .int) [.ref (kad k 11 0), .int a1, .int a2] μ (some (.int r)) μ' := by
  refine MM.of (lv := [(0, .ref (kad k 11 0)), (1, .int a1), (2, .int a2)]) (plainFor_of_name (by decide)) hk (Nat.le_of_ble_eq_true rfl) rfl (fun z hl hx => ?_)
  subst hl
  have hx : Ok z k bX11_tires 5 "RopeDance" (some .int) 4 (0, 0) := hx
  unfold fX11_tires at hf
  refine r_aloadn hx 0 rfl rfl dX11_tires_0 ?_
  refine r_iloadn hx 1 rfl rfl dX11_tires_1 ?_
  obtain ⟨r3, μ2, c1, hf⟩ := f_bd2 hf
  refine r_callV hx (As := [.int a1]) (rest := []) (st1 := [rp k 5 r3]) (c := 11) (i := 0) (TT := T11) (N := 12) MK_X11_squareAt rfl wi_X11_squareAt we_X11_squareAt wm_X11_98 ⟨Nat.le_refl _, Nat.le_refl _⟩ (cX11_squareAt hk e_this c1) e_this (Nat.le_of_ble_eq_true rfl) rfl rfl (Nat.le_of_ble_eq_true rfl) rfl dX11_tires_2 (fun hb4 => ?_)
  cases r3 with
  | none =>
    have hf := f_on hf
    refine r_astorenN (lv' := [(3, .null), (0, .ref (kad k 11 0)), (1, .int a1), (2, .int a2)]) hx rfl (Nat.le_of_ble_eq_true rfl) rfl dX11_tires_5 ?_
    refine r_aloadn hx 1 rfl rfl dX11_tires_6 ?_
    refine r_iloadn hx 3 rfl rfl dX11_tires_7 ?_
    obtain ⟨r9, μ8, c7, hf⟩ := f_bd2 hf
    refine r_callV hx (As := [.int a2]) (rest := []) (st1 := [rp k 3 r9]) (c := 11) (i := 0) (TT := T11) (N := 12) MK_X11_figureAt rfl wi_X11_figureAt we_X11_figureAt wm_X11_128 ⟨Nat.le_refl _, Nat.le_refl _⟩ (cX11_figureAt hk e_this c7) e_this (Nat.le_of_ble_eq_true rfl) rfl rfl (Nat.le_of_ble_eq_true rfl) rfl dX11_tires_8 (fun hb10 => ?_)
    cases r9 with
    | none =>
      have hf := f_on hf
      refine r_astoreN (lv' := [(4, .null), (3, .null), (0, .ref (kad k 11 0)), (1, .int a1), (2, .int a2)]) hx (Nat.le_of_ble_eq_true rfl) rfl dX11_tires_11 ?_
      refine r_aloadnN hx 1 rfl rfl dX11_tires_13 ?_
      refine r_nullN (tgt := 22) hx rfl dX11_tires_14 ?_
      refine r_iconst hx ci_m1 dX11_tires_22 ?_
      exact r_iret hx hf dX11_tires_23
    | some i11 =>
      have hf := f_os hf
      have e12 : kex k 3 i11 := xX11_figureAt hk e_this c7
      refine r_astore (lv' := [(4, .ref (kad k 3 i11)), (3, .null), (0, .ref (kad k 11 0)), (1, .int a1), (2, .int a2)]) hx (Nat.le_of_ble_eq_true rfl) rfl dX11_tires_11 ?_
      refine r_aloadnN hx 1 rfl rfl dX11_tires_13 ?_
      refine r_nullN (tgt := 22) hx rfl dX11_tires_14 ?_
      refine r_iconst hx ci_m1 dX11_tires_22 ?_
      exact r_iret hx hf dX11_tires_23
  | some i5 =>
    have hf := f_os hf
    have e6 : kex k 5 i5 := xX11_squareAt hk e_this c1
    refine r_astoren (lv' := [(3, .ref (kad k 5 i5)), (0, .ref (kad k 11 0)), (1, .int a1), (2, .int a2)]) hx rfl (Nat.le_of_ble_eq_true rfl) rfl dX11_tires_5 ?_
    refine r_aloadn hx 1 rfl rfl dX11_tires_6 ?_
    refine r_iloadn hx 3 rfl rfl dX11_tires_7 ?_
    obtain ⟨r15, μ14, c13, hf⟩ := f_bd2 hf
    refine r_callV hx (As := [.int a2]) (rest := []) (st1 := [rp k 3 r15]) (c := 11) (i := 0) (TT := T11) (N := 12) MK_X11_figureAt rfl wi_X11_figureAt we_X11_figureAt wm_X11_128 ⟨Nat.le_refl _, Nat.le_refl _⟩ (cX11_figureAt hk e_this c13) e_this (Nat.le_of_ble_eq_true rfl) rfl rfl (Nat.le_of_ble_eq_true rfl) rfl dX11_tires_8 (fun hb16 => ?_)
    cases r15 with
    | none =>
      have hf := f_on hf
      refine r_astoreN (lv' := [(4, .null), (3, .ref (kad k 5 i5)), (0, .ref (kad k 11 0)), (1, .int a1), (2, .int a2)]) hx (Nat.le_of_ble_eq_true rfl) rfl dX11_tires_11 ?_
      refine r_aloadn hx 1 rfl rfl dX11_tires_13 ?_
      refine r_nullS hx dX11_tires_14 ?_
      refine r_aloadN hx 0 rfl dX11_tires_17 ?_
      refine r_nonnullN hx dX11_tires_19 ?_
      refine r_iconst hx ci_m1 dX11_tires_22 ?_
      exact r_iret hx hf dX11_tires_23
    | some i17 =>
      have hf := f_os hf
      have e18 : kex k 3 i17 := xX11_figureAt hk e_this c13
      refine r_astore (lv' := [(4, .ref (kad k 3 i17)), (3, .ref (kad k 5 i5)), (0, .ref (kad k 11 0)), (1, .int a1), (2, .int a2)]) hx (Nat.le_of_ble_eq_true rfl) rfl dX11_tires_11 ?_
      refine r_aloadn hx 1 rfl rfl dX11_tires_13 ?_
      refine r_nullS hx dX11_tires_14 ?_
      refine r_aload hx 0 rfl dX11_tires_17 ?_
      refine r_nonnullS (tgt := 24) hx rfl dX11_tires_19 ?_
      refine r_aloadn hx 2 rfl rfl dX11_tires_24 ?_
      refine r_getT hx FK11_2 e_this (by decide) wf_X11_19 dX11_tires_25 (fun e19 => ?_)
      refine r_iconst hx ci_0 dX11_tires_28 ?_
      refine r_aloadn hx 1 rfl rfl dX11_tires_29 ?_
      refine r_iloadn hx 3 rfl rfl dX11_tires_30 ?_
      refine r_aloadn hx 2 rfl rfl dX11_tires_31 ?_
      refine r_getR hx (c' := 0) (i' := 0) FK11_4 e_this rfl wf_X11_38 dX11_tires_32 (fun e20 => ?_)
      refine r_getI hx FK0_1 e20 wf_X11_118 dX11_tires_35 ?_
      refine r_aload hx 0 rfl dX11_tires_38 ?_
      refine r_getI hx FK3_0 e18 wf_X11_133 dX11_tires_40 ?_
      obtain ⟨r23, μ22, c21, hf⟩ := f_bd2 hf
      refine r_callV hx (As := [.int 0, .ref (kad k 5 i5), .int a1, .int (gi μ14 0 0 1), .int (gi μ14 3 i17 0)]) (rest := []) (st1 := [.int r23]) (c := 8) (i := (tx (gi μ14 11 0 2))) (TT := T8) (N := 13) MK_X8_worth rfl wi_X8_worth we_X8_worth wm_X11_121 ⟨Nat.le_refl _, Nat.le_refl _⟩ (cX8_worth hk e19 e6 c21) e19 (Nat.le_of_ble_eq_true rfl) rfl rfl (Nat.le_of_ble_eq_true rfl) rfl dX11_tires_43 (fun hb24 => ?_)
      exact r_iret hx hf dX11_tires_46
theorem dX11_after_0 : decode bX11_after 0 = .ok (.aload_n 0, 1) := by decide +kernel
theorem dX11_after_1 : decode bX11_after 1 = .ok (.iload_n 1, 1) := by decide +kernel
theorem dX11_after_2 : decode bX11_after 2 = .ok (.invokevirtual 98, 3) := by decide +kernel
theorem dX11_after_5 : decode bX11_after 5 = .ok (.astore 4, 2) := by decide +kernel
theorem dX11_after_7 : decode bX11_after 7 = .ok (.aload_n 0, 1) := by decide +kernel
theorem dX11_after_8 : decode bX11_after 8 = .ok (.iload_n 2, 1) := by decide +kernel
theorem dX11_after_9 : decode bX11_after 9 = .ok (.invokevirtual 128, 3) := by decide +kernel
theorem dX11_after_12 : decode bX11_after 12 = .ok (.astore 5, 2) := by decide +kernel
theorem dX11_after_14 : decode bX11_after 14 = .ok (.aload 4, 2) := by decide +kernel
theorem dX11_after_16 : decode bX11_after 16 = .ok (.ifnull 17, 3) := by decide +kernel
theorem dX11_after_19 : decode bX11_after 19 = .ok (.aload 5, 2) := by decide +kernel
theorem dX11_after_21 : decode bX11_after 21 = .ok (.ifnull 12, 3) := by decide +kernel
theorem dX11_after_24 : decode bX11_after 24 = .ok (.iload_n 3, 1) := by decide +kernel
theorem dX11_after_25 : decode bX11_after 25 = .ok (.ifCond .lt 8, 3) := by decide +kernel
theorem dX11_after_28 : decode bX11_after 28 = .ok (.iload_n 3, 1) := by decide +kernel
theorem dX11_after_29 : decode bX11_after 29 = .ok (.iconst 1, 1) := by decide +kernel
theorem dX11_after_30 : decode bX11_after 30 = .ok (.if_icmp .le 7, 3) := by decide +kernel
theorem dX11_after_33 : decode bX11_after 33 = .ok (.sipush (-1000), 3) := by decide +kernel
theorem dX11_after_36 : decode bX11_after 36 = .ok (.ireturn, 1) := by decide +kernel
theorem dX11_after_37 : decode bX11_after 37 = .ok (.aload_n 0, 1) := by decide +kernel
theorem dX11_after_38 : decode bX11_after 38 = .ok (.getfield 59, 3) := by decide +kernel
theorem dX11_after_41 : decode bX11_after 41 = .ok (.aload 4, 2) := by decide +kernel
theorem dX11_after_43 : decode bX11_after 43 = .ok (.invokevirtual 146, 3) := by decide +kernel
theorem dX11_after_46 : decode bX11_after 46 = .ok (.aload 5, 2) := by decide +kernel
theorem dX11_after_48 : decode bX11_after 48 = .ok (.aload_n 0, 1) := by decide +kernel
theorem dX11_after_49 : decode bX11_after 49 = .ok (.getfield 59, 3) := by decide +kernel
theorem dX11_after_52 : decode bX11_after 52 = .ok (.aload 5, 2) := by decide +kernel
theorem dX11_after_54 : decode bX11_after 54 = .ok (.getfield 133, 3) := by decide +kernel
theorem dX11_after_57 : decode bX11_after 57 = .ok (.invokevirtual 150, 3) := by decide +kernel
theorem dX11_after_60 : decode bX11_after 60 = .ok (.ifCond .ne 7, 3) := by decide +kernel
theorem dX11_after_63 : decode bX11_after 63 = .ok (.sipush (-1000), 3) := by decide +kernel
theorem dX11_after_66 : decode bX11_after 66 = .ok (.ireturn, 1) := by decide +kernel
theorem dX11_after_67 : decode bX11_after 67 = .ok (.iload_n 3, 1) := by decide +kernel
theorem dX11_after_68 : decode bX11_after 68 = .ok (.ifCond .ne 13, 3) := by decide +kernel
theorem dX11_after_71 : decode bX11_after 71 = .ok (.aload_n 0, 1) := by decide +kernel
theorem dX11_after_72 : decode bX11_after 72 = .ok (.getfield 59, 3) := by decide +kernel
theorem dX11_after_75 : decode bX11_after 75 = .ok (.getfield 102, 3) := by decide +kernel
theorem dX11_after_78 : decode bX11_after 78 = .ok (.goto 10, 3) := by decide +kernel
theorem dX11_after_81 : decode bX11_after 81 = .ok (.aload_n 0, 1) := by decide +kernel
theorem dX11_after_82 : decode bX11_after 82 = .ok (.getfield 59, 3) := by decide +kernel
theorem dX11_after_85 : decode bX11_after 85 = .ok (.getfield 105, 3) := by decide +kernel
theorem dX11_after_88 : decode bX11_after 88 = .ok (.ireturn, 1) := by decide +kernel
set_option maxRecDepth 20000 in
set_option maxHeartbeats 4000000 in
theorem cX11_after {l : Launch} {k : Kx} {F : Nat} {a1 : Int32} {a2 : Int32} {a3 : Int32} {μ μ' : Mm} {r : Int32} (hk : kok k) (e_this : kex k 11 0) (hf : fX11_after F a1 a2 a3 μ = some (r, μ')) : MM l k 3 yX11_after bX11_after 6 (some .int) [.ref (kad k 11 0), .int a1, .int a2, .int a3] μ (some (.int r)) μ' := by
  refine MM.of (lv := [(0, .ref (kad k 11 0)), (1, .int a1), (2, .int a2), (3, .int a3)]) (plainFor_of_name (by decide)) hk (Nat.le_of_ble_eq_true rfl) rfl (fun z hl hx => ?_)
  subst hl
  have hx : Ok z k bX11_after 6 "RopeDance" (some .int) 3 (0, 0) := hx
  unfold fX11_after at hf
  refine r_aloadn hx 0 rfl rfl dX11_after_0 ?_
  refine r_iloadn hx 1 rfl rfl dX11_after_1 ?_
  obtain ⟨r3, μ2, c1, hf⟩ := f_bd2 hf
  refine r_callV hx (As := [.int a1]) (rest := []) (st1 := [rp k 5 r3]) (c := 11) (i := 0) (TT := T11) (N := 12) MK_X11_squareAt rfl wi_X11_squareAt we_X11_squareAt wm_X11_98 ⟨Nat.le_refl _, Nat.le_refl _⟩ (cX11_squareAt hk e_this c1) e_this (Nat.le_of_ble_eq_true rfl) rfl rfl (Nat.le_of_ble_eq_true rfl) rfl dX11_after_2 (fun hb4 => ?_)
  cases r3 with
  | none =>
    have hf := f_on hf
    refine r_astoreN (lv' := [(4, .null), (0, .ref (kad k 11 0)), (1, .int a1), (2, .int a2), (3, .int a3)]) hx (Nat.le_of_ble_eq_true rfl) rfl dX11_after_5 ?_
    refine r_aloadn hx 1 rfl rfl dX11_after_7 ?_
    refine r_iloadn hx 3 rfl rfl dX11_after_8 ?_
    obtain ⟨r9, μ8, c7, hf⟩ := f_bd2 hf
    refine r_callV hx (As := [.int a2]) (rest := []) (st1 := [rp k 3 r9]) (c := 11) (i := 0) (TT := T11) (N := 12) MK_X11_figureAt rfl wi_X11_figureAt we_X11_figureAt wm_X11_128 ⟨Nat.le_refl _, Nat.le_refl _⟩ (cX11_figureAt hk e_this c7) e_this (Nat.le_of_ble_eq_true rfl) rfl rfl (Nat.le_of_ble_eq_true rfl) rfl dX11_after_9 (fun hb10 => ?_)
    cases r9 with
    | none =>
      have hf := f_on hf
      refine r_astoreN (lv' := [(5, .null), (4, .null), (0, .ref (kad k 11 0)), (1, .int a1), (2, .int a2), (3, .int a3)]) hx (Nat.le_of_ble_eq_true rfl) rfl dX11_after_12 ?_
      refine r_aloadN hx 1 rfl dX11_after_14 ?_
      refine r_nullN (tgt := 33) hx rfl dX11_after_16 ?_
      refine r_sipush hx cs_m1000 dX11_after_33 ?_
      exact r_iret hx hf dX11_after_36
    | some i11 =>
      have hf := f_os hf
      have e12 : kex k 3 i11 := xX11_figureAt hk e_this c7
      refine r_astore (lv' := [(5, .ref (kad k 3 i11)), (4, .null), (0, .ref (kad k 11 0)), (1, .int a1), (2, .int a2), (3, .int a3)]) hx (Nat.le_of_ble_eq_true rfl) rfl dX11_after_12 ?_
      refine r_aloadN hx 1 rfl dX11_after_14 ?_
      refine r_nullN (tgt := 33) hx rfl dX11_after_16 ?_
      refine r_sipush hx cs_m1000 dX11_after_33 ?_
      exact r_iret hx hf dX11_after_36
  | some i5 =>
    have hf := f_os hf
    have e6 : kex k 5 i5 := xX11_squareAt hk e_this c1
    refine r_astore (lv' := [(4, .ref (kad k 5 i5)), (0, .ref (kad k 11 0)), (1, .int a1), (2, .int a2), (3, .int a3)]) hx (Nat.le_of_ble_eq_true rfl) rfl dX11_after_5 ?_
    refine r_aloadn hx 1 rfl rfl dX11_after_7 ?_
    refine r_iloadn hx 3 rfl rfl dX11_after_8 ?_
    obtain ⟨r15, μ14, c13, hf⟩ := f_bd2 hf
    refine r_callV hx (As := [.int a2]) (rest := []) (st1 := [rp k 3 r15]) (c := 11) (i := 0) (TT := T11) (N := 12) MK_X11_figureAt rfl wi_X11_figureAt we_X11_figureAt wm_X11_128 ⟨Nat.le_refl _, Nat.le_refl _⟩ (cX11_figureAt hk e_this c13) e_this (Nat.le_of_ble_eq_true rfl) rfl rfl (Nat.le_of_ble_eq_true rfl) rfl dX11_after_9 (fun hb16 => ?_)
    cases r15 with
    | none =>
      have hf := f_on hf
      refine r_astoreN (lv' := [(5, .null), (4, .ref (kad k 5 i5)), (0, .ref (kad k 11 0)), (1, .int a1), (2, .int a2), (3, .int a3)]) hx (Nat.le_of_ble_eq_true rfl) rfl dX11_after_12 ?_
      refine r_aload hx 1 rfl dX11_after_14 ?_
      refine r_nullS hx dX11_after_16 ?_
      refine r_aloadN hx 0 rfl dX11_after_19 ?_
      refine r_nullN (tgt := 33) hx rfl dX11_after_21 ?_
      refine r_sipush hx cs_m1000 dX11_after_33 ?_
      exact r_iret hx hf dX11_after_36
    | some i17 =>
      have hf := f_os hf
      have e18 : kex k 3 i17 := xX11_figureAt hk e_this c13
      refine r_astore (lv' := [(5, .ref (kad k 3 i17)), (4, .ref (kad k 5 i5)), (0, .ref (kad k 11 0)), (1, .int a1), (2, .int a2), (3, .int a3)]) hx (Nat.le_of_ble_eq_true rfl) rfl dX11_after_12 ?_
      refine r_aload hx 1 rfl dX11_after_14 ?_
      refine r_nullS hx dX11_after_16 ?_
      refine r_aload hx 0 rfl dX11_after_19 ?_
      refine r_nullS hx dX11_after_21 ?_
      refine r_iloadn hx 5 rfl rfl dX11_after_24 ?_
      refine r_iflt (tgt := 33) hx rfl dX11_after_25 (fun q19 => ?_) (fun q19 => ?_)
      · have hf := (f_ite hf).1 q19
        refine r_sipush hx cs_m1000 dX11_after_33 ?_
        exact r_iret hx hf dX11_after_36
      · have hf := (f_ite hf).2 q19
        refine r_iloadn hx 5 rfl rfl dX11_after_28 ?_
        refine r_iconst hx ci_1 dX11_after_29 ?_
        refine r_icle (tgt := 37) hx rfl dX11_after_30 (fun q20 => ?_) (fun q20 => ?_)
        · have hf := (f_ite hf).1 q20
          refine r_aloadn hx 2 rfl rfl dX11_after_37 ?_
          refine r_getR hx (c' := 5) (i' := 4) FK11_7 e_this rfl wf_X11_59 dX11_after_38 (fun e21 => ?_)
          refine r_aload hx 1 rfl dX11_after_41 ?_
          obtain ⟨μ23, c22, hf⟩ := f_bd1 hf
          refine r_callV hx (As := [.ref (kad k 5 i5)]) (rest := []) (st1 := []) (c := 5) (i := 4) (TT := T5) (N := 4) MK_X5_takeTangle rfl wi_X5_takeTangle we_X5_takeTangle wm_X11_146 ⟨Nat.le_refl _, Nat.le_refl _⟩ (cX5_takeTangle hk e21 e6 c22) e21 (Nat.le_of_ble_eq_true rfl) rfl rfl (Nat.le_of_ble_eq_true rfl) rfl dX11_after_43 (fun hb24 => ?_)
          refine r_aload hx 0 rfl dX11_after_46 ?_
          refine r_aloadn hx 2 rfl rfl dX11_after_48 ?_
          refine r_getR hx (c' := 5) (i' := 4) FK11_7 e_this rfl wf_X11_59 dX11_after_49 (fun e25 => ?_)
          refine r_aload hx 0 rfl dX11_after_52 ?_
          refine r_getI hx FK3_0 e18 wf_X11_133 dX11_after_54 ?_
          obtain ⟨r28, μ27, c26, hf⟩ := f_bd2 hf
          refine r_callV hx (As := [.ref (kad k 5 4), .int (gi μ23 3 i17 0)]) (rest := []) (st1 := [.int r28]) (c := 3) (i := i17) (TT := T3) (N := 4) MK_X3_makes rfl wi_X3_makes we_X3_makes wm_X11_150 ⟨Nat.le_refl _, Nat.le_refl _⟩ (cX3_makes hk e18 e25 c26) e18 (Nat.le_of_ble_eq_true rfl) rfl rfl (Nat.le_of_ble_eq_true rfl) rfl dX11_after_57 (fun hb29 => ?_)
          refine r_ifne (tgt := 67) hx rfl dX11_after_60 (fun q30 => ?_) (fun q30 => ?_)
          · have hf := (f_ite hf).2 q30
            refine r_iloadn hx 5 rfl rfl dX11_after_67 ?_
            refine r_ifne (tgt := 81) hx rfl dX11_after_68 (fun q31 => ?_) (fun q31 => ?_)
            · have hf := (f_ite hf).2 q31
              refine r_aloadn hx 2 rfl rfl dX11_after_81 ?_
              refine r_getR hx (c' := 5) (i' := 4) FK11_7 e_this rfl wf_X11_59 dX11_after_82 (fun e32 => ?_)
              refine r_getI hx FK5_1 e32 wf_X11_105 dX11_after_85 ?_
              exact r_iret hx hf dX11_after_88
            · have hf := (f_ite hf).1 q31
              refine r_aloadn hx 2 rfl rfl dX11_after_71 ?_
              refine r_getR hx (c' := 5) (i' := 4) FK11_7 e_this rfl wf_X11_59 dX11_after_72 (fun e33 => ?_)
              refine r_getI hx FK5_0 e33 wf_X11_102 dX11_after_75 ?_
              refine r_goto (tgt := 88) hx rfl dX11_after_78 ?_
              exact r_iret hx hf dX11_after_88
          · have hf := (f_ite hf).1 q30
            refine r_sipush hx cs_m1000 dX11_after_63 ?_
            exact r_iret hx hf dX11_after_66
        · have hf := (f_ite hf).2 q20
          refine r_sipush hx cs_m1000 dX11_after_33 ?_
          exact r_iret hx hf dX11_after_36
theorem dX11_call_0 : decode bX11_call 0 = .ok (.aload_n 0, 1) := by decide +kernel
theorem dX11_call_1 : decode bX11_call 1 = .ok (.iload_n 1, 1) := by decide +kernel
theorem dX11_call_2 : decode bX11_call 2 = .ok (.invokevirtual 98, 3) := by decide +kernel
theorem dX11_call_5 : decode bX11_call 5 = .ok (.astore_n 3, 1) := by decide +kernel
theorem dX11_call_6 : decode bX11_call 6 = .ok (.aload_n 0, 1) := by decide +kernel
theorem dX11_call_7 : decode bX11_call 7 = .ok (.iload_n 2, 1) := by decide +kernel
theorem dX11_call_8 : decode bX11_call 8 = .ok (.invokevirtual 128, 3) := by decide +kernel
theorem dX11_call_11 : decode bX11_call 11 = .ok (.astore 4, 2) := by decide +kernel
theorem dX11_call_13 : decode bX11_call 13 = .ok (.aload_n 3, 1) := by decide +kernel
theorem dX11_call_14 : decode bX11_call 14 = .ok (.ifnull 8, 3) := by decide +kernel
theorem dX11_call_17 : decode bX11_call 17 = .ok (.aload 4, 2) := by decide +kernel
theorem dX11_call_19 : decode bX11_call 19 = .ok (.ifnonnull 5, 3) := by decide +kernel
theorem dX11_call_22 : decode bX11_call 22 = .ok (.iconst (-1), 1) := by decide +kernel
theorem dX11_call_23 : decode bX11_call 23 = .ok (.ireturn, 1) := by decide +kernel
theorem dX11_call_24 : decode bX11_call 24 = .ok (.aload_n 0, 1) := by decide +kernel
theorem dX11_call_25 : decode bX11_call 25 = .ok (.getfield 59, 3) := by decide +kernel
theorem dX11_call_28 : decode bX11_call 28 = .ok (.aload_n 3, 1) := by decide +kernel
theorem dX11_call_29 : decode bX11_call 29 = .ok (.invokevirtual 146, 3) := by decide +kernel
theorem dX11_call_32 : decode bX11_call 32 = .ok (.aload 4, 2) := by decide +kernel
theorem dX11_call_34 : decode bX11_call 34 = .ok (.aload_n 0, 1) := by decide +kernel
theorem dX11_call_35 : decode bX11_call 35 = .ok (.getfield 59, 3) := by decide +kernel
theorem dX11_call_38 : decode bX11_call 38 = .ok (.aload 4, 2) := by decide +kernel
theorem dX11_call_40 : decode bX11_call 40 = .ok (.getfield 133, 3) := by decide +kernel
theorem dX11_call_43 : decode bX11_call 43 = .ok (.invokevirtual 150, 3) := by decide +kernel
theorem dX11_call_46 : decode bX11_call 46 = .ok (.ifCond .ne 5, 3) := by decide +kernel
theorem dX11_call_49 : decode bX11_call 49 = .ok (.iconst (-1), 1) := by decide +kernel
theorem dX11_call_50 : decode bX11_call 50 = .ok (.ireturn, 1) := by decide +kernel
theorem dX11_call_51 : decode bX11_call 51 = .ok (.aload_n 0, 1) := by decide +kernel
theorem dX11_call_52 : decode bX11_call 52 = .ok (.getfield 45, 3) := by decide +kernel
theorem dX11_call_55 : decode bX11_call 55 = .ok (.aload_n 0, 1) := by decide +kernel
theorem dX11_call_56 : decode bX11_call 56 = .ok (.getfield 38, 3) := by decide +kernel
theorem dX11_call_59 : decode bX11_call 59 = .ok (.invokevirtual 154, 3) := by decide +kernel
theorem dX11_call_62 : decode bX11_call 62 = .ok (.aload_n 0, 1) := by decide +kernel
theorem dX11_call_63 : decode bX11_call 63 = .ok (.getfield 19, 3) := by decide +kernel
theorem dX11_call_66 : decode bX11_call 66 = .ok (.aload 4, 2) := by decide +kernel
theorem dX11_call_68 : decode bX11_call 68 = .ok (.aload_n 3, 1) := by decide +kernel
theorem dX11_call_69 : decode bX11_call 69 = .ok (.iload_n 1, 1) := by decide +kernel
theorem dX11_call_70 : decode bX11_call 70 = .ok (.aload_n 0, 1) := by decide +kernel
theorem dX11_call_71 : decode bX11_call 71 = .ok (.getfield 38, 3) := by decide +kernel
theorem dX11_call_74 : decode bX11_call 74 = .ok (.getfield 118, 3) := by decide +kernel
theorem dX11_call_77 : decode bX11_call 77 = .ok (.aload 4, 2) := by decide +kernel
theorem dX11_call_79 : decode bX11_call 79 = .ok (.getfield 133, 3) := by decide +kernel
theorem dX11_call_82 : decode bX11_call 82 = .ok (.invokevirtual 158, 3) := by decide +kernel
theorem dX11_call_85 : decode bX11_call 85 = .ok (.pop, 1) := by decide +kernel
theorem dX11_call_86 : decode bX11_call 86 = .ok (.aload_n 3, 1) := by decide +kernel
theorem dX11_call_87 : decode bX11_call 87 = .ok (.invokevirtual 108, 3) := by decide +kernel
theorem dX11_call_90 : decode bX11_call 90 = .ok (.ireturn, 1) := by decide +kernel
set_option maxRecDepth 20000 in
set_option maxHeartbeats 4000000 in
theorem cX11_call {l : Launch} {k : Kx} {F : Nat} {a1 : Int32} {a2 : Int32} {μ μ' : Mm} {r : Int32} (hk : kok k) (e_this : kex k 11 0) (hf : fX11_call F a1 a2 μ = some (r, μ')) : MM l k 5 yX11_call bX11_call 5 (some .int) [.ref (kad k 11 0), .int a1, .int a2] μ (some (.int r)) μ' := by
  refine MM.of (lv := [(0, .ref (kad k 11 0)), (1, .int a1), (2, .int a2)]) (plainFor_of_name (by decide)) hk (Nat.le_of_ble_eq_true rfl) rfl (fun z hl hx => ?_)
  subst hl
  have hx : Ok z k bX11_call 5 "RopeDance" (some .int) 5 (0, 0) := hx
  unfold fX11_call at hf
  refine r_aloadn hx 0 rfl rfl dX11_call_0 ?_
  refine r_iloadn hx 1 rfl rfl dX11_call_1 ?_
  obtain ⟨r3, μ2, c1, hf⟩ := f_bd2 hf
  refine r_callV hx (As := [.int a1]) (rest := []) (st1 := [rp k 5 r3]) (c := 11) (i := 0) (TT := T11) (N := 12) MK_X11_squareAt rfl wi_X11_squareAt we_X11_squareAt wm_X11_98 ⟨Nat.le_refl _, Nat.le_refl _⟩ (cX11_squareAt hk e_this c1) e_this (Nat.le_of_ble_eq_true rfl) rfl rfl (Nat.le_of_ble_eq_true rfl) rfl dX11_call_2 (fun hb4 => ?_)
  cases r3 with
  | none =>
    have hf := f_on hf
    refine r_astorenN (lv' := [(3, .null), (0, .ref (kad k 11 0)), (1, .int a1), (2, .int a2)]) hx rfl (Nat.le_of_ble_eq_true rfl) rfl dX11_call_5 ?_
    refine r_aloadn hx 1 rfl rfl dX11_call_6 ?_
    refine r_iloadn hx 3 rfl rfl dX11_call_7 ?_
    obtain ⟨r9, μ8, c7, hf⟩ := f_bd2 hf
    refine r_callV hx (As := [.int a2]) (rest := []) (st1 := [rp k 3 r9]) (c := 11) (i := 0) (TT := T11) (N := 12) MK_X11_figureAt rfl wi_X11_figureAt we_X11_figureAt wm_X11_128 ⟨Nat.le_refl _, Nat.le_refl _⟩ (cX11_figureAt hk e_this c7) e_this (Nat.le_of_ble_eq_true rfl) rfl rfl (Nat.le_of_ble_eq_true rfl) rfl dX11_call_8 (fun hb10 => ?_)
    cases r9 with
    | none =>
      have hf := f_on hf
      refine r_astoreN (lv' := [(4, .null), (3, .null), (0, .ref (kad k 11 0)), (1, .int a1), (2, .int a2)]) hx (Nat.le_of_ble_eq_true rfl) rfl dX11_call_11 ?_
      refine r_aloadnN hx 1 rfl rfl dX11_call_13 ?_
      refine r_nullN (tgt := 22) hx rfl dX11_call_14 ?_
      refine r_iconst hx ci_m1 dX11_call_22 ?_
      exact r_iret hx hf dX11_call_23
    | some i11 =>
      have hf := f_os hf
      have e12 : kex k 3 i11 := xX11_figureAt hk e_this c7
      refine r_astore (lv' := [(4, .ref (kad k 3 i11)), (3, .null), (0, .ref (kad k 11 0)), (1, .int a1), (2, .int a2)]) hx (Nat.le_of_ble_eq_true rfl) rfl dX11_call_11 ?_
      refine r_aloadnN hx 1 rfl rfl dX11_call_13 ?_
      refine r_nullN (tgt := 22) hx rfl dX11_call_14 ?_
      refine r_iconst hx ci_m1 dX11_call_22 ?_
      exact r_iret hx hf dX11_call_23
  | some i5 =>
    have hf := f_os hf
    have e6 : kex k 5 i5 := xX11_squareAt hk e_this c1
    refine r_astoren (lv' := [(3, .ref (kad k 5 i5)), (0, .ref (kad k 11 0)), (1, .int a1), (2, .int a2)]) hx rfl (Nat.le_of_ble_eq_true rfl) rfl dX11_call_5 ?_
    refine r_aloadn hx 1 rfl rfl dX11_call_6 ?_
    refine r_iloadn hx 3 rfl rfl dX11_call_7 ?_
    obtain ⟨r15, μ14, c13, hf⟩ := f_bd2 hf
    refine r_callV hx (As := [.int a2]) (rest := []) (st1 := [rp k 3 r15]) (c := 11) (i := 0) (TT := T11) (N := 12) MK_X11_figureAt rfl wi_X11_figureAt we_X11_figureAt wm_X11_128 ⟨Nat.le_refl _, Nat.le_refl _⟩ (cX11_figureAt hk e_this c13) e_this (Nat.le_of_ble_eq_true rfl) rfl rfl (Nat.le_of_ble_eq_true rfl) rfl dX11_call_8 (fun hb16 => ?_)
    cases r15 with
    | none =>
      have hf := f_on hf
      refine r_astoreN (lv' := [(4, .null), (3, .ref (kad k 5 i5)), (0, .ref (kad k 11 0)), (1, .int a1), (2, .int a2)]) hx (Nat.le_of_ble_eq_true rfl) rfl dX11_call_11 ?_
      refine r_aloadn hx 1 rfl rfl dX11_call_13 ?_
      refine r_nullS hx dX11_call_14 ?_
      refine r_aloadN hx 0 rfl dX11_call_17 ?_
      refine r_nonnullN hx dX11_call_19 ?_
      refine r_iconst hx ci_m1 dX11_call_22 ?_
      exact r_iret hx hf dX11_call_23
    | some i17 =>
      have hf := f_os hf
      have e18 : kex k 3 i17 := xX11_figureAt hk e_this c13
      refine r_astore (lv' := [(4, .ref (kad k 3 i17)), (3, .ref (kad k 5 i5)), (0, .ref (kad k 11 0)), (1, .int a1), (2, .int a2)]) hx (Nat.le_of_ble_eq_true rfl) rfl dX11_call_11 ?_
      refine r_aloadn hx 1 rfl rfl dX11_call_13 ?_
      refine r_nullS hx dX11_call_14 ?_
      refine r_aload hx 0 rfl dX11_call_17 ?_
      refine r_nonnullS (tgt := 24) hx rfl dX11_call_19 ?_
      refine r_aloadn hx 2 rfl rfl dX11_call_24 ?_
      refine r_getR hx (c' := 5) (i' := 4) FK11_7 e_this rfl wf_X11_59 dX11_call_25 (fun e19 => ?_)
      refine r_aloadn hx 1 rfl rfl dX11_call_28 ?_
      obtain ⟨μ21, c20, hf⟩ := f_bd1 hf
      refine r_callV hx (As := [.ref (kad k 5 i5)]) (rest := []) (st1 := []) (c := 5) (i := 4) (TT := T5) (N := 4) MK_X5_takeTangle rfl wi_X5_takeTangle we_X5_takeTangle wm_X11_146 ⟨Nat.le_refl _, Nat.le_refl _⟩ (cX5_takeTangle hk e19 e6 c20) e19 (Nat.le_of_ble_eq_true rfl) rfl rfl (Nat.le_of_ble_eq_true rfl) rfl dX11_call_29 (fun hb22 => ?_)
      refine r_aload hx 0 rfl dX11_call_32 ?_
      refine r_aloadn hx 2 rfl rfl dX11_call_34 ?_
      refine r_getR hx (c' := 5) (i' := 4) FK11_7 e_this rfl wf_X11_59 dX11_call_35 (fun e23 => ?_)
      refine r_aload hx 0 rfl dX11_call_38 ?_
      refine r_getI hx FK3_0 e18 wf_X11_133 dX11_call_40 ?_
      obtain ⟨r26, μ25, c24, hf⟩ := f_bd2 hf
      refine r_callV hx (As := [.ref (kad k 5 4), .int (gi μ21 3 i17 0)]) (rest := []) (st1 := [.int r26]) (c := 3) (i := i17) (TT := T3) (N := 4) MK_X3_makes rfl wi_X3_makes we_X3_makes wm_X11_150 ⟨Nat.le_refl _, Nat.le_refl _⟩ (cX3_makes hk e18 e23 c24) e18 (Nat.le_of_ble_eq_true rfl) rfl rfl (Nat.le_of_ble_eq_true rfl) rfl dX11_call_43 (fun hb27 => ?_)
      refine r_ifne (tgt := 51) hx rfl dX11_call_46 (fun q28 => ?_) (fun q28 => ?_)
      · have hf := (f_ite hf).2 q28
        refine r_aloadn hx 2 rfl rfl dX11_call_51 ?_
        refine r_getR hx (c' := 1) (i' := 0) FK11_5 e_this rfl wf_X11_45 dX11_call_52 (fun e29 => ?_)
        refine r_aloadn hx 2 rfl rfl dX11_call_55 ?_
        refine r_getR hx (c' := 0) (i' := 0) FK11_4 e_this rfl wf_X11_38 dX11_call_56 (fun e30 => ?_)
        obtain ⟨μ32, c31, hf⟩ := f_bd1 hf
        refine r_callV hx (As := [.ref (kad k 0 0)]) (rest := []) (st1 := []) (c := 1) (i := 0) (TT := T1) (N := 5) MK_X1_remember rfl wi_X1_remember we_X1_remember wm_X11_154 ⟨Nat.le_refl _, Nat.le_refl _⟩ (cX1_remember hk e29 e30 c31) e29 (Nat.le_of_ble_eq_true rfl) rfl rfl (Nat.le_of_ble_eq_true rfl) rfl dX11_call_59 (fun hb33 => ?_)
        refine r_aloadn hx 2 rfl rfl dX11_call_62 ?_
        refine r_getT hx FK11_2 e_this (by decide) wf_X11_19 dX11_call_63 (fun e34 => ?_)
        refine r_aload hx 0 rfl dX11_call_66 ?_
        refine r_aloadn hx 1 rfl rfl dX11_call_68 ?_
        refine r_iloadn hx 3 rfl rfl dX11_call_69 ?_
        refine r_aloadn hx 2 rfl rfl dX11_call_70 ?_
        refine r_getR hx (c' := 0) (i' := 0) FK11_4 e_this rfl wf_X11_38 dX11_call_71 (fun e35 => ?_)
        refine r_getI hx FK0_1 e35 wf_X11_118 dX11_call_74 ?_
        refine r_aload hx 0 rfl dX11_call_77 ?_
        refine r_getI hx FK3_0 e18 wf_X11_133 dX11_call_79 ?_
        obtain ⟨r38, μ37, c36, hf⟩ := f_bd2 hf
        refine r_callV hx (As := [.ref (kad k 3 i17), .ref (kad k 5 i5), .int a1, .int (gi μ32 0 0 1), .int (gi μ32 3 i17 0)]) (rest := []) (st1 := [.int r38]) (c := 8) (i := (tx (gi μ32 11 0 2))) (TT := T8) (N := 13) MK_X8_calls rfl wi_X8_calls we_X8_calls wm_X11_158 ⟨Nat.le_refl _, Nat.le_refl _⟩ (cX8_calls hk e34 e18 e6 c36) e34 (Nat.le_of_ble_eq_true rfl) rfl rfl (Nat.le_of_ble_eq_true rfl) rfl dX11_call_82 (fun hb39 => ?_)
        refine r_pop hx rfl dX11_call_85 ?_
        refine r_aloadn hx 1 rfl rfl dX11_call_86 ?_
        obtain ⟨r42, μ41, c40, hf⟩ := f_bd2 hf
        refine r_callV hx (As := []) (rest := []) (st1 := [.int r42]) (c := 5) (i := i5) (TT := T5) (N := 4) MK_X5_crossings rfl wi_X5_crossings we_X5_crossings wm_X11_108 ⟨Nat.le_refl _, Nat.le_refl _⟩ (cX5_crossings hk e6 c40) e6 (Nat.le_of_ble_eq_true rfl) rfl rfl (Nat.le_of_ble_eq_true rfl) rfl dX11_call_87 (fun hb43 => ?_)
        exact r_iret hx hf dX11_call_90
      · have hf := (f_ite hf).1 q28
        refine r_iconst hx ci_m1 dX11_call_49 ?_
        exact r_iret hx hf dX11_call_50
theorem dX11_move_0 : decode bX11_move 0 = .ok (.aload_n 0, 1) := by decide +kernel
theorem dX11_move_1 : decode bX11_move 1 = .ok (.iload_n 1, 1) := by decide +kernel
theorem dX11_move_2 : decode bX11_move 2 = .ok (.invokevirtual 98, 3) := by decide +kernel
theorem dX11_move_5 : decode bX11_move 5 = .ok (.astore 4, 2) := by decide +kernel
theorem dX11_move_7 : decode bX11_move 7 = .ok (.aload 4, 2) := by decide +kernel
theorem dX11_move_9 : decode bX11_move 9 = .ok (.ifnull 12, 3) := by decide +kernel
theorem dX11_move_12 : decode bX11_move 12 = .ok (.iload_n 2, 1) := by decide +kernel
theorem dX11_move_13 : decode bX11_move 13 = .ok (.ifCond .lt 8, 3) := by decide +kernel
theorem dX11_move_16 : decode bX11_move 16 = .ok (.iload_n 2, 1) := by decide +kernel
theorem dX11_move_17 : decode bX11_move 17 = .ok (.iconst 2, 1) := by decide +kernel
theorem dX11_move_18 : decode bX11_move 18 = .ok (.if_icmp .le 5, 3) := by decide +kernel
theorem dX11_move_21 : decode bX11_move 21 = .ok (.iconst 0, 1) := by decide +kernel
theorem dX11_move_22 : decode bX11_move 22 = .ok (.ireturn, 1) := by decide +kernel
theorem dX11_move_23 : decode bX11_move 23 = .ok (.iload_n 2, 1) := by decide +kernel
theorem dX11_move_24 : decode bX11_move 24 = .ok (.iconst 2, 1) := by decide +kernel
theorem dX11_move_25 : decode bX11_move 25 = .ok (.if_icmp .eq 16, 3) := by decide +kernel
theorem dX11_move_28 : decode bX11_move 28 = .ok (.iload_n 3, 1) := by decide +kernel
theorem dX11_move_29 : decode bX11_move 29 = .ok (.iconst 1, 1) := by decide +kernel
theorem dX11_move_30 : decode bX11_move 30 = .ok (.if_icmp .lt 9, 3) := by decide +kernel
theorem dX11_move_33 : decode bX11_move 33 = .ok (.iload_n 3, 1) := by decide +kernel
theorem dX11_move_34 : decode bX11_move 34 = .ok (.bipush 9, 2) := by decide +kernel
theorem dX11_move_36 : decode bX11_move 36 = .ok (.if_icmp .le 5, 3) := by decide +kernel
theorem dX11_move_39 : decode bX11_move 39 = .ok (.iconst 0, 1) := by decide +kernel
theorem dX11_move_40 : decode bX11_move 40 = .ok (.ireturn, 1) := by decide +kernel
theorem dX11_move_41 : decode bX11_move 41 = .ok (.aload_n 0, 1) := by decide +kernel
theorem dX11_move_42 : decode bX11_move 42 = .ok (.getfield 59, 3) := by decide +kernel
theorem dX11_move_45 : decode bX11_move 45 = .ok (.aload 4, 2) := by decide +kernel
theorem dX11_move_47 : decode bX11_move 47 = .ok (.invokevirtual 146, 3) := by decide +kernel
theorem dX11_move_50 : decode bX11_move 50 = .ok (.aload_n 0, 1) := by decide +kernel
theorem dX11_move_51 : decode bX11_move 51 = .ok (.getfield 59, 3) := by decide +kernel
theorem dX11_move_54 : decode bX11_move 54 = .ok (.iload_n 2, 1) := by decide +kernel
theorem dX11_move_55 : decode bX11_move 55 = .ok (.iload_n 3, 1) := by decide +kernel
theorem dX11_move_56 : decode bX11_move 56 = .ok (.invokevirtual 162, 3) := by decide +kernel
theorem dX11_move_59 : decode bX11_move 59 = .ok (.ifCond .ne 5, 3) := by decide +kernel
theorem dX11_move_62 : decode bX11_move 62 = .ok (.iconst 0, 1) := by decide +kernel
theorem dX11_move_63 : decode bX11_move 63 = .ok (.ireturn, 1) := by decide +kernel
theorem dX11_move_64 : decode bX11_move 64 = .ok (.aload_n 0, 1) := by decide +kernel
theorem dX11_move_65 : decode bX11_move 65 = .ok (.getfield 45, 3) := by decide +kernel
theorem dX11_move_68 : decode bX11_move 68 = .ok (.aload_n 0, 1) := by decide +kernel
theorem dX11_move_69 : decode bX11_move 69 = .ok (.getfield 38, 3) := by decide +kernel
theorem dX11_move_72 : decode bX11_move 72 = .ok (.invokevirtual 154, 3) := by decide +kernel
theorem dX11_move_75 : decode bX11_move 75 = .ok (.aload 4, 2) := by decide +kernel
theorem dX11_move_77 : decode bX11_move 77 = .ok (.aload_n 0, 1) := by decide +kernel
theorem dX11_move_78 : decode bX11_move 78 = .ok (.getfield 59, 3) := by decide +kernel
theorem dX11_move_81 : decode bX11_move 81 = .ok (.invokevirtual 146, 3) := by decide +kernel
theorem dX11_move_84 : decode bX11_move 84 = .ok (.iconst 1, 1) := by decide +kernel
theorem dX11_move_85 : decode bX11_move 85 = .ok (.ireturn, 1) := by decide +kernel
set_option maxRecDepth 20000 in
set_option maxHeartbeats 4000000 in
theorem cX11_move {l : Launch} {k : Kx} {F : Nat} {a1 : Int32} {a2 : Int32} {a3 : Int32} {μ μ' : Mm} {r : Int32} (hk : kok k) (e_this : kex k 11 0) (hf : fX11_move F a1 a2 a3 μ = some (r, μ')) : MM l k 2 yX11_move bX11_move 5 (some .boolean) [.ref (kad k 11 0), .int a1, .int a2, .int a3] μ (some (.int r)) μ' := by
  refine MM.of (lv := [(0, .ref (kad k 11 0)), (1, .int a1), (2, .int a2), (3, .int a3)]) (plainFor_of_name (by decide)) hk (Nat.le_of_ble_eq_true rfl) rfl (fun z hl hx => ?_)
  subst hl
  have hx : Ok z k bX11_move 5 "RopeDance" (some .boolean) 2 (0, 0) := hx
  have L41 : ∀ (v2 : Int32) (v3 : Int32) (v4 : Nat) (μ : Mm) (e_v0 : kex k 11 0) (e_v4 : kex k 5 v4), fX11_move_L41 F v2 v3 v4 μ = some (r, μ') → Gw z k 5 (k, (0, 0), (some .boolean), (some (.int r)), μ') (0, 0) 41 μ [(0, .ref (kad k 11 0)), (2, .int v2), (3, .int v3), (4, .ref (kad k 5 v4))] [] := by
    intro  v2 v3 v4 μ e_v0 e_v4 hf
    unfold fX11_move_L41 at hf
    refine r_aloadn hx 0 rfl rfl dX11_move_41 ?_
    refine r_getR hx (c' := 5) (i' := 4) FK11_7 e_v0 rfl wf_X11_59 dX11_move_42 (fun e10 => ?_)
    refine r_aload hx 3 rfl dX11_move_45 ?_
    obtain ⟨μ12, c11, hf⟩ := f_bd1 hf
    refine r_callV hx (As := [.ref (kad k 5 v4)]) (rest := []) (st1 := []) (c := 5) (i := 4) (TT := T5) (N := 4) MK_X5_takeTangle rfl wi_X5_takeTangle we_X5_takeTangle wm_X11_146 ⟨Nat.le_refl _, Nat.le_refl _⟩ (cX5_takeTangle hk e10 e_v4 c11) e10 (Nat.le_of_ble_eq_true rfl) rfl rfl (Nat.le_of_ble_eq_true rfl) rfl dX11_move_47 (fun hb13 => ?_)
    refine r_aloadn hx 0 rfl rfl dX11_move_50 ?_
    refine r_getR hx (c' := 5) (i' := 4) FK11_7 e_v0 rfl wf_X11_59 dX11_move_51 (fun e14 => ?_)
    refine r_iloadn hx 1 rfl rfl dX11_move_54 ?_
    refine r_iloadn hx 2 rfl rfl dX11_move_55 ?_
    obtain ⟨r17, μ16, c15, hf⟩ := f_bd2 hf
    refine r_callV hx (As := [.int v2, .int v3]) (rest := []) (st1 := [.int r17]) (c := 5) (i := 4) (TT := T5) (N := 4) MK_X5_makes rfl wi_X5_makes we_X5_makes wm_X11_162 ⟨Nat.le_refl _, Nat.le_refl _⟩ (cX5_makes hk e14 c15) e14 (Nat.le_of_ble_eq_true rfl) rfl rfl (Nat.le_of_ble_eq_true rfl) rfl dX11_move_56 (fun hb18 => ?_)
    refine r_ifne (tgt := 64) hx rfl dX11_move_59 (fun q19 => ?_) (fun q19 => ?_)
    · have hf := (f_ite hf).2 q19
      refine r_aloadn hx 0 rfl rfl dX11_move_64 ?_
      refine r_getR hx (c' := 1) (i' := 0) FK11_5 e_v0 rfl wf_X11_45 dX11_move_65 (fun e20 => ?_)
      refine r_aloadn hx 0 rfl rfl dX11_move_68 ?_
      refine r_getR hx (c' := 0) (i' := 0) FK11_4 e_v0 rfl wf_X11_38 dX11_move_69 (fun e21 => ?_)
      obtain ⟨μ23, c22, hf⟩ := f_bd1 hf
      refine r_callV hx (As := [.ref (kad k 0 0)]) (rest := []) (st1 := []) (c := 1) (i := 0) (TT := T1) (N := 5) MK_X1_remember rfl wi_X1_remember we_X1_remember wm_X11_154 ⟨Nat.le_refl _, Nat.le_refl _⟩ (cX1_remember hk e20 e21 c22) e20 (Nat.le_of_ble_eq_true rfl) rfl rfl (Nat.le_of_ble_eq_true rfl) rfl dX11_move_72 (fun hb24 => ?_)
      refine r_aload hx 3 rfl dX11_move_75 ?_
      refine r_aloadn hx 0 rfl rfl dX11_move_77 ?_
      refine r_getR hx (c' := 5) (i' := 4) FK11_7 e_v0 rfl wf_X11_59 dX11_move_78 (fun e25 => ?_)
      obtain ⟨μ27, c26, hf⟩ := f_bd1 hf
      refine r_callV hx (As := [.ref (kad k 5 4)]) (rest := []) (st1 := []) (c := 5) (i := v4) (TT := T5) (N := 4) MK_X5_takeTangle rfl wi_X5_takeTangle we_X5_takeTangle wm_X11_146 ⟨Nat.le_refl _, Nat.le_refl _⟩ (cX5_takeTangle hk e_v4 e25 c26) e_v4 (Nat.le_of_ble_eq_true rfl) rfl rfl (Nat.le_of_ble_eq_true rfl) rfl dX11_move_81 (fun hb28 => ?_)
      refine r_iconst hx ci_1 dX11_move_84 ?_
      exact r_zret hx hf rfl dX11_move_85
    · have hf := (f_ite hf).1 q19
      refine r_iconst hx ci_0 dX11_move_62 ?_
      exact r_zret hx hf rfl dX11_move_63
  unfold fX11_move at hf
  refine r_aloadn hx 0 rfl rfl dX11_move_0 ?_
  refine r_iloadn hx 1 rfl rfl dX11_move_1 ?_
  obtain ⟨r3, μ2, c1, hf⟩ := f_bd2 hf
  refine r_callV hx (As := [.int a1]) (rest := []) (st1 := [rp k 5 r3]) (c := 11) (i := 0) (TT := T11) (N := 12) MK_X11_squareAt rfl wi_X11_squareAt we_X11_squareAt wm_X11_98 ⟨Nat.le_refl _, Nat.le_refl _⟩ (cX11_squareAt hk e_this c1) e_this (Nat.le_of_ble_eq_true rfl) rfl rfl (Nat.le_of_ble_eq_true rfl) rfl dX11_move_2 (fun hb4 => ?_)
  cases r3 with
  | none =>
    have hf := f_on hf
    refine r_astoreN (lv' := [(4, .null), (0, .ref (kad k 11 0)), (1, .int a1), (2, .int a2), (3, .int a3)]) hx (Nat.le_of_ble_eq_true rfl) rfl dX11_move_5 ?_
    refine r_aloadN hx 0 rfl dX11_move_7 ?_
    refine r_nullN (tgt := 21) hx rfl dX11_move_9 ?_
    refine r_iconst hx ci_0 dX11_move_21 ?_
    exact r_zret hx hf rfl dX11_move_22
  | some i5 =>
    have hf := f_os hf
    have e6 : kex k 5 i5 := xX11_squareAt hk e_this c1
    refine r_astore (lv' := [(4, .ref (kad k 5 i5)), (0, .ref (kad k 11 0)), (1, .int a1), (2, .int a2), (3, .int a3)]) hx (Nat.le_of_ble_eq_true rfl) rfl dX11_move_5 ?_
    refine r_aload hx 0 rfl dX11_move_7 ?_
    refine r_nullS hx dX11_move_9 ?_
    refine r_iloadn hx 3 rfl rfl dX11_move_12 ?_
    refine r_iflt (tgt := 21) hx rfl dX11_move_13 (fun q7 => ?_) (fun q7 => ?_)
    · have hf := (f_ite hf).1 q7
      refine r_iconst hx ci_0 dX11_move_21 ?_
      exact r_zret hx hf rfl dX11_move_22
    · have hf := (f_ite hf).2 q7
      refine r_iloadn hx 3 rfl rfl dX11_move_16 ?_
      refine r_iconst hx ci_2 dX11_move_17 ?_
      refine r_icle (tgt := 23) hx rfl dX11_move_18 (fun q8 => ?_) (fun q8 => ?_)
      · have hf := (f_ite hf).1 q8
        refine r_iloadn hx 3 rfl rfl dX11_move_23 ?_
        refine r_iconst hx ci_2 dX11_move_24 ?_
        refine r_iceq (tgt := 41) hx rfl dX11_move_25 (fun q9 => ?_) (fun q9 => ?_)
        · have hf := (f_ite hf).1 q9
          refine r_sub [1, 3, 4, 0] rfl ?_
          exact L41  a2 a3 i5 μ2 e_this e6 hf
        · have hf := (f_ite hf).2 q9
          refine r_iloadn hx 4 rfl rfl dX11_move_28 ?_
          refine r_iconst hx ci_1 dX11_move_29 ?_
          refine r_iclt (tgt := 39) hx rfl dX11_move_30 (fun q29 => ?_) (fun q29 => ?_)
          · have hf := (f_ite hf).1 q29
            refine r_iconst hx ci_0 dX11_move_39 ?_
            exact r_zret hx hf rfl dX11_move_40
          · have hf := (f_ite hf).2 q29
            refine r_iloadn hx 4 rfl rfl dX11_move_33 ?_
            refine r_bipush hx cb_9 dX11_move_34 ?_
            refine r_icle (tgt := 41) hx rfl dX11_move_36 (fun q30 => ?_) (fun q30 => ?_)
            · have hf := (f_ite hf).1 q30
              refine r_sub [1, 3, 4, 0] rfl ?_
              exact L41  a2 a3 i5 μ2 e_this e6 hf
            · have hf := (f_ite hf).2 q30
              refine r_iconst hx ci_0 dX11_move_39 ?_
              exact r_zret hx hf rfl dX11_move_40
      · have hf := (f_ite hf).2 q8
        refine r_iconst hx ci_0 dX11_move_21 ?_
        exact r_zret hx hf rfl dX11_move_22
theorem dX11_let_0 : decode bX11_let 0 = .ok (.aload_n 0, 1) := by decide +kernel
theorem dX11_let_1 : decode bX11_let 1 = .ok (.iload_n 1, 1) := by decide +kernel
theorem dX11_let_2 : decode bX11_let 2 = .ok (.invokevirtual 98, 3) := by decide +kernel
theorem dX11_let_5 : decode bX11_let 5 = .ok (.astore_n 2, 1) := by decide +kernel
theorem dX11_let_6 : decode bX11_let 6 = .ok (.aload_n 2, 1) := by decide +kernel
theorem dX11_let_7 : decode bX11_let 7 = .ok (.ifnull 10, 3) := by decide +kernel
theorem dX11_let_10 : decode bX11_let 10 = .ok (.aload_n 2, 1) := by decide +kernel
theorem dX11_let_11 : decode bX11_let 11 = .ok (.invokevirtual 165, 3) := by decide +kernel
theorem dX11_let_14 : decode bX11_let 14 = .ok (.ifCond .eq 5, 3) := by decide +kernel
theorem dX11_let_17 : decode bX11_let 17 = .ok (.iconst 0, 1) := by decide +kernel
theorem dX11_let_18 : decode bX11_let 18 = .ok (.ireturn, 1) := by decide +kernel
theorem dX11_let_19 : decode bX11_let 19 = .ok (.aload_n 0, 1) := by decide +kernel
theorem dX11_let_20 : decode bX11_let 20 = .ok (.getfield 45, 3) := by decide +kernel
theorem dX11_let_23 : decode bX11_let 23 = .ok (.aload_n 0, 1) := by decide +kernel
theorem dX11_let_24 : decode bX11_let 24 = .ok (.getfield 38, 3) := by decide +kernel
theorem dX11_let_27 : decode bX11_let 27 = .ok (.invokevirtual 154, 3) := by decide +kernel
theorem dX11_let_30 : decode bX11_let 30 = .ok (.aload_n 2, 1) := by decide +kernel
theorem dX11_let_31 : decode bX11_let 31 = .ok (.invokevirtual 169, 3) := by decide +kernel
theorem dX11_let_34 : decode bX11_let 34 = .ok (.iconst 1, 1) := by decide +kernel
theorem dX11_let_35 : decode bX11_let 35 = .ok (.ireturn, 1) := by decide +kernel
set_option maxRecDepth 20000 in
set_option maxHeartbeats 4000000 in
theorem cX11_let {l : Launch} {k : Kx} {F : Nat} {a1 : Int32} {μ μ' : Mm} {r : Int32} (hk : kok k) (e_this : kex k 11 0) (hf : fX11_let F a1 μ = some (r, μ')) : MM l k 2 yX11_let bX11_let 3 (some .boolean) [.ref (kad k 11 0), .int a1] μ (some (.int r)) μ' := by
  refine MM.of (lv := [(0, .ref (kad k 11 0)), (1, .int a1)]) (plainFor_of_name (by decide)) hk (Nat.le_of_ble_eq_true rfl) rfl (fun z hl hx => ?_)
  subst hl
  have hx : Ok z k bX11_let 3 "RopeDance" (some .boolean) 2 (0, 0) := hx
  unfold fX11_let at hf
  refine r_aloadn hx 0 rfl rfl dX11_let_0 ?_
  refine r_iloadn hx 1 rfl rfl dX11_let_1 ?_
  obtain ⟨r3, μ2, c1, hf⟩ := f_bd2 hf
  refine r_callV hx (As := [.int a1]) (rest := []) (st1 := [rp k 5 r3]) (c := 11) (i := 0) (TT := T11) (N := 12) MK_X11_squareAt rfl wi_X11_squareAt we_X11_squareAt wm_X11_98 ⟨Nat.le_refl _, Nat.le_refl _⟩ (cX11_squareAt hk e_this c1) e_this (Nat.le_of_ble_eq_true rfl) rfl rfl (Nat.le_of_ble_eq_true rfl) rfl dX11_let_2 (fun hb4 => ?_)
  cases r3 with
  | none =>
    have hf := f_on hf
    refine r_astorenN (lv' := [(2, .null), (0, .ref (kad k 11 0)), (1, .int a1)]) hx rfl (Nat.le_of_ble_eq_true rfl) rfl dX11_let_5 ?_
    refine r_aloadnN hx 0 rfl rfl dX11_let_6 ?_
    refine r_nullN (tgt := 17) hx rfl dX11_let_7 ?_
    refine r_iconst hx ci_0 dX11_let_17 ?_
    exact r_zret hx hf rfl dX11_let_18
  | some i5 =>
    have hf := f_os hf
    have e6 : kex k 5 i5 := xX11_squareAt hk e_this c1
    refine r_astoren (lv' := [(2, .ref (kad k 5 i5)), (0, .ref (kad k 11 0)), (1, .int a1)]) hx rfl (Nat.le_of_ble_eq_true rfl) rfl dX11_let_5 ?_
    refine r_aloadn hx 0 rfl rfl dX11_let_6 ?_
    refine r_nullS hx dX11_let_7 ?_
    refine r_aloadn hx 0 rfl rfl dX11_let_10 ?_
    obtain ⟨r9, μ8, c7, hf⟩ := f_bd2 hf
    refine r_callV hx (As := []) (rest := []) (st1 := [.int r9]) (c := 5) (i := i5) (TT := T5) (N := 4) MK_X5_isUndone rfl wi_X5_isUndone we_X5_isUndone wm_X11_165 ⟨Nat.le_refl _, Nat.le_refl _⟩ (cX5_isUndone hk e6 c7) e6 (Nat.le_of_ble_eq_true rfl) rfl rfl (Nat.le_of_ble_eq_true rfl) rfl dX11_let_11 (fun hb10 => ?_)
    refine r_ifeq (tgt := 19) hx rfl dX11_let_14 (fun q11 => ?_) (fun q11 => ?_)
    · have hf := (f_ite hf).1 q11
      refine r_aloadn hx 1 rfl rfl dX11_let_19 ?_
      refine r_getR hx (c' := 1) (i' := 0) FK11_5 e_this rfl wf_X11_45 dX11_let_20 (fun e12 => ?_)
      refine r_aloadn hx 1 rfl rfl dX11_let_23 ?_
      refine r_getR hx (c' := 0) (i' := 0) FK11_4 e_this rfl wf_X11_38 dX11_let_24 (fun e13 => ?_)
      obtain ⟨μ15, c14, hf⟩ := f_bd1 hf
      refine r_callV hx (As := [.ref (kad k 0 0)]) (rest := []) (st1 := []) (c := 1) (i := 0) (TT := T1) (N := 5) MK_X1_remember rfl wi_X1_remember we_X1_remember wm_X11_154 ⟨Nat.le_refl _, Nat.le_refl _⟩ (cX1_remember hk e12 e13 c14) e12 (Nat.le_of_ble_eq_true rfl) rfl rfl (Nat.le_of_ble_eq_true rfl) rfl dX11_let_27 (fun hb16 => ?_)
      refine r_aloadn hx 0 rfl rfl dX11_let_30 ?_
      obtain ⟨μ18, c17, hf⟩ := f_bd1 hf
      refine r_callV hx (As := []) (rest := []) (st1 := []) (c := 5) (i := i5) (TT := T5) (N := 4) MK_X5_letGo rfl wi_X5_letGo we_X5_letGo wm_X11_169 ⟨Nat.le_refl _, Nat.le_refl _⟩ (cX5_letGo hk e6 c17) e6 (Nat.le_of_ble_eq_true rfl) rfl rfl (Nat.le_of_ble_eq_true rfl) rfl dX11_let_31 (fun hb19 => ?_)
      refine r_iconst hx ci_1 dX11_let_34 ?_
      exact r_zret hx hf rfl dX11_let_35
    · have hf := (f_ite hf).2 q11
      refine r_iconst hx ci_0 dX11_let_17 ?_
      exact r_zret hx hf rfl dX11_let_18
theorem dX11_minutes_0 : decode bX11_minutes 0 = .ok (.iload_n 1, 1) := by decide +kernel
theorem dX11_minutes_1 : decode bX11_minutes 1 = .ok (.ifCond .lt 9, 3) := by decide +kernel
theorem dX11_minutes_4 : decode bX11_minutes 4 = .ok (.iload_n 1, 1) := by decide +kernel
theorem dX11_minutes_5 : decode bX11_minutes 5 = .ok (.bipush 60, 2) := by decide +kernel
theorem dX11_minutes_7 : decode bX11_minutes 7 = .ok (.if_icmp .le 5, 3) := by decide +kernel
theorem dX11_minutes_10 : decode bX11_minutes 10 = .ok (.iconst (-1), 1) := by decide +kernel
theorem dX11_minutes_11 : decode bX11_minutes 11 = .ok (.ireturn, 1) := by decide +kernel
theorem dX11_minutes_12 : decode bX11_minutes 12 = .ok (.iload_n 1, 1) := by decide +kernel
theorem dX11_minutes_13 : decode bX11_minutes 13 = .ok (.ifCond .le 14, 3) := by decide +kernel
theorem dX11_minutes_16 : decode bX11_minutes 16 = .ok (.aload_n 0, 1) := by decide +kernel
theorem dX11_minutes_17 : decode bX11_minutes 17 = .ok (.getfield 45, 3) := by decide +kernel
theorem dX11_minutes_20 : decode bX11_minutes 20 = .ok (.aload_n 0, 1) := by decide +kernel
theorem dX11_minutes_21 : decode bX11_minutes 21 = .ok (.getfield 38, 3) := by decide +kernel
theorem dX11_minutes_24 : decode bX11_minutes 24 = .ok (.invokevirtual 154, 3) := by decide +kernel
theorem dX11_minutes_27 : decode bX11_minutes 27 = .ok (.iconst 0, 1) := by decide +kernel
theorem dX11_minutes_28 : decode bX11_minutes 28 = .ok (.istore_n 2, 1) := by decide +kernel
theorem dX11_minutes_29 : decode bX11_minutes 29 = .ok (.iload_n 2, 1) := by decide +kernel
theorem dX11_minutes_30 : decode bX11_minutes 30 = .ok (.iload_n 1, 1) := by decide +kernel
theorem dX11_minutes_31 : decode bX11_minutes 31 = .ok (.if_icmp .ge 20, 3) := by decide +kernel
theorem dX11_minutes_34 : decode bX11_minutes 34 = .ok (.aload_n 0, 1) := by decide +kernel
theorem dX11_minutes_35 : decode bX11_minutes 35 = .ok (.getfield 38, 3) := by decide +kernel
theorem dX11_minutes_38 : decode bX11_minutes 38 = .ok (.aload_n 0, 1) := by decide +kernel
theorem dX11_minutes_39 : decode bX11_minutes 39 = .ok (.getfield 19, 3) := by decide +kernel
theorem dX11_minutes_42 : decode bX11_minutes 42 = .ok (.invokevirtual 172, 3) := by decide +kernel
theorem dX11_minutes_45 : decode bX11_minutes 45 = .ok (.iinc 2 1, 3) := by decide +kernel
theorem dX11_minutes_48 : decode bX11_minutes 48 = .ok (.goto (-19), 3) := by decide +kernel
theorem dX11_minutes_51 : decode bX11_minutes 51 = .ok (.aload_n 0, 1) := by decide +kernel
theorem dX11_minutes_52 : decode bX11_minutes 52 = .ok (.getfield 38, 3) := by decide +kernel
theorem dX11_minutes_55 : decode bX11_minutes 55 = .ok (.getfield 118, 3) := by decide +kernel
theorem dX11_minutes_58 : decode bX11_minutes 58 = .ok (.ireturn, 1) := by decide +kernel
set_option maxRecDepth 20000 in
set_option maxHeartbeats 4000000 in
theorem cX11_minutes {l : Launch} {k : Kx} {F : Nat} {a1 : Int32} {μ μ' : Mm} {r : Int32} (hk : kok k) (e_this : kex k 11 0) (hf : fX11_minutes F a1 μ = some (r, μ')) : MM l k 7 yX11_minutes bX11_minutes 3 (some .int) [.ref (kad k 11 0), .int a1] μ (some (.int r)) μ' := by
  refine MM.of (lv := [(0, .ref (kad k 11 0)), (1, .int a1)]) (plainFor_of_name (by decide)) hk (Nat.le_of_ble_eq_true rfl) rfl (fun z hl hx => ?_)
  subst hl
  have hx : Ok z k bX11_minutes 3 "RopeDance" (some .int) 7 (0, 0) := hx
  have L29 : ∀ (n : Nat) (v1 : Int32) (v2 : Int32) (μ : Mm) (e_v0 : kex k 11 0), fX11_minutes_L29 F n v1 v2 μ = some (r, μ') → Gw z k 3 (k, (0, 0), (some .int), (some (.int r)), μ') (0, 0) 29 μ [(0, .ref (kad k 11 0)), (1, .int v1), (2, .int v2)] [] := by
    intro  n
    induction n with
    | zero =>
      intro v1 v2 μ e_v0 hf
      exact f_no (show (none : Option (Int32 × Mm)) = _ from hf)
    | succ n ih =>
      intro v1 v2 μ e_v0 hf
      rw [fX11_minutes_L29] at hf
      refine r_iloadn hx 2 rfl rfl dX11_minutes_29 ?_
      refine r_iloadn hx 1 rfl rfl dX11_minutes_30 ?_
      refine r_icge (tgt := 51) hx rfl dX11_minutes_31 (fun q4 => ?_) (fun q4 => ?_)
      · have hf := (f_ite hf).1 q4
        refine r_aloadn hx 0 rfl rfl dX11_minutes_51 ?_
        refine r_getR hx (c' := 0) (i' := 0) FK11_4 e_v0 rfl wf_X11_38 dX11_minutes_52 (fun e5 => ?_)
        refine r_getI hx FK0_1 e5 wf_X11_118 dX11_minutes_55 ?_
        exact r_iret hx hf dX11_minutes_58
      · have hf := (f_ite hf).2 q4
        refine r_aloadn hx 0 rfl rfl dX11_minutes_34 ?_
        refine r_getR hx (c' := 0) (i' := 0) FK11_4 e_v0 rfl wf_X11_38 dX11_minutes_35 (fun e6 => ?_)
        refine r_aloadn hx 0 rfl rfl dX11_minutes_38 ?_
        refine r_getT hx FK11_2 e_v0 (by decide) wf_X11_19 dX11_minutes_39 (fun e7 => ?_)
        obtain ⟨μ9, c8, hf⟩ := f_bd1 hf
        refine r_callV hx (As := [.ref (kad k 8 (tx (gi μ 11 0 2)))]) (rest := []) (st1 := []) (c := 0) (i := 0) (TT := T0) (N := 3) MK_X0_passMinute rfl wi_X0_passMinute we_X0_passMinute wm_X11_172 ⟨Nat.le_refl _, Nat.le_refl _⟩ (cX0_passMinute hk e6 e7 c8) e6 (Nat.le_of_ble_eq_true rfl) rfl rfl (Nat.le_of_ble_eq_true rfl) rfl dX11_minutes_42 (fun hb10 => ?_)
        refine r_iinc (lv' := [(2, .int (v2 + 1)), (0, .ref (kad k 11 0)), (1, .int v1)]) hx 2 rfl (congrArg (fun y => v2 + y) ci_1) (Nat.le_of_ble_eq_true rfl) rfl dX11_minutes_45 ?_
        refine r_goto (tgt := 29) hx rfl dX11_minutes_48 ?_
        refine r_sub [1, 2, 0] rfl ?_
        exact ih v1 (v2 + 1) μ9 e_v0 hf
  have L27 : ∀ (v1 : Int32) (μ : Mm) (e_v0 : kex k 11 0), fX11_minutes_L27 F v1 μ = some (r, μ') → Gw z k 3 (k, (0, 0), (some .int), (some (.int r)), μ') (0, 0) 27 μ [(0, .ref (kad k 11 0)), (1, .int v1)] [] := by
    intro  v1 μ e_v0 hf
    unfold fX11_minutes_L27 at hf
    refine r_iconst hx ci_0 dX11_minutes_27 ?_
    refine r_istoren (lv' := [(2, .int 0), (0, .ref (kad k 11 0)), (1, .int v1)]) hx rfl (Nat.le_of_ble_eq_true rfl) rfl dX11_minutes_28 ?_
    refine r_sub [1, 2, 0] rfl ?_
    exact L29 F v1 0 μ e_v0 hf
  unfold fX11_minutes at hf
  refine r_iloadn hx 1 rfl rfl dX11_minutes_0 ?_
  refine r_iflt (tgt := 10) hx rfl dX11_minutes_1 (fun q1 => ?_) (fun q1 => ?_)
  · have hf := (f_ite hf).1 q1
    refine r_iconst hx ci_m1 dX11_minutes_10 ?_
    exact r_iret hx hf dX11_minutes_11
  · have hf := (f_ite hf).2 q1
    refine r_iloadn hx 1 rfl rfl dX11_minutes_4 ?_
    refine r_bipush hx cb_60 dX11_minutes_5 ?_
    refine r_icle (tgt := 12) hx rfl dX11_minutes_7 (fun q2 => ?_) (fun q2 => ?_)
    · have hf := (f_ite hf).1 q2
      refine r_iloadn hx 1 rfl rfl dX11_minutes_12 ?_
      refine r_ifle (tgt := 27) hx rfl dX11_minutes_13 (fun q3 => ?_) (fun q3 => ?_)
      · have hf := (f_ite hf).1 q3
        refine r_sub [0, 1] rfl ?_
        exact L27  a1 μ e_this hf
      · have hf := (f_ite hf).2 q3
        refine r_aloadn hx 0 rfl rfl dX11_minutes_16 ?_
        refine r_getR hx (c' := 1) (i' := 0) FK11_5 e_this rfl wf_X11_45 dX11_minutes_17 (fun e11 => ?_)
        refine r_aloadn hx 0 rfl rfl dX11_minutes_20 ?_
        refine r_getR hx (c' := 0) (i' := 0) FK11_4 e_this rfl wf_X11_38 dX11_minutes_21 (fun e12 => ?_)
        obtain ⟨μ14, c13, hf⟩ := f_bd1 hf
        refine r_callV hx (As := [.ref (kad k 0 0)]) (rest := []) (st1 := []) (c := 1) (i := 0) (TT := T1) (N := 5) MK_X1_remember rfl wi_X1_remember we_X1_remember wm_X11_154 ⟨Nat.le_refl _, Nat.le_refl _⟩ (cX1_remember hk e11 e12 c13) e11 (Nat.le_of_ble_eq_true rfl) rfl rfl (Nat.le_of_ble_eq_true rfl) rfl dX11_minutes_24 (fun hb15 => ?_)
        refine r_sub [0, 1] rfl ?_
        exact L27  a1 μ14 e_this hf
    · have hf := (f_ite hf).2 q2
      refine r_iconst hx ci_m1 dX11_minutes_10 ?_
      exact r_iret hx hf dX11_minutes_11
theorem dX11_undo_0 : decode bX11_undo 0 = .ok (.aload_n 0, 1) := by decide +kernel
theorem dX11_undo_1 : decode bX11_undo 1 = .ok (.getfield 45, 3) := by decide +kernel
theorem dX11_undo_4 : decode bX11_undo 4 = .ok (.aload_n 0, 1) := by decide +kernel
theorem dX11_undo_5 : decode bX11_undo 5 = .ok (.getfield 38, 3) := by decide +kernel
theorem dX11_undo_8 : decode bX11_undo 8 = .ok (.invokevirtual 175, 3) := by decide +kernel
theorem dX11_undo_11 : decode bX11_undo 11 = .ok (.ireturn, 1) := by decide +kernel
set_option maxRecDepth 20000 in
set_option maxHeartbeats 4000000 in
theorem cX11_undo {l : Launch} {k : Kx} {F : Nat} {μ μ' : Mm} {r : Int32} (hk : kok k) (e_this : kex k 11 0) (hf : fX11_undo F μ = some (r, μ')) : MM l k 2 yX11_undo bX11_undo 1 (some .boolean) [.ref (kad k 11 0)] μ (some (.int r)) μ' := by
  refine MM.of (lv := [(0, .ref (kad k 11 0))]) (plainFor_of_name (by decide)) hk (Nat.le_of_ble_eq_true rfl) rfl (fun z hl hx => ?_)
  subst hl
  have hx : Ok z k bX11_undo 1 "RopeDance" (some .boolean) 2 (0, 0) := hx
  unfold fX11_undo at hf
  refine r_aloadn hx 0 rfl rfl dX11_undo_0 ?_
  refine r_getR hx (c' := 1) (i' := 0) FK11_5 e_this rfl wf_X11_45 dX11_undo_1 (fun e1 => ?_)
  refine r_aloadn hx 0 rfl rfl dX11_undo_4 ?_
  refine r_getR hx (c' := 0) (i' := 0) FK11_4 e_this rfl wf_X11_38 dX11_undo_5 (fun e2 => ?_)
  obtain ⟨r5, μ4, c3, hf⟩ := f_bd2 hf
  refine r_callV hx (As := [.ref (kad k 0 0)]) (rest := []) (st1 := [.int r5]) (c := 1) (i := 0) (TT := T1) (N := 5) MK_X1_takeBack rfl wi_X1_takeBack we_X1_takeBack wm_X11_175 ⟨Nat.le_refl _, Nat.le_refl _⟩ (cX1_takeBack hk e1 e2 c3) e1 (Nat.le_of_ble_eq_true rfl) rfl rfl (Nat.le_of_ble_eq_true rfl) rfl dX11_undo_8 (fun hb6 => ?_)
  exact r_zret hx hf (hb6.1 rfl _ rfl) dX11_undo_11
theorem dX11_unwinding_0 : decode bX11_unwinding 0 = .ok (.aload_n 0, 1) := by decide +kernel
theorem dX11_unwinding_1 : decode bX11_unwinding 1 = .ok (.getfield 340, 3) := by decide +kernel
theorem dX11_unwinding_4 : decode bX11_unwinding 4 = .ok (.ifnonnull 14, 3) := by decide +kernel
theorem dX11_unwinding_7 : decode bX11_unwinding 7 = .ok (.aload_n 0, 1) := by decide +kernel
theorem dX11_unwinding_18 : decode bX11_unwinding 18 = .ok (.aload_n 0, 1) := by decide +kernel
theorem dX11_unwinding_19 : decode bX11_unwinding 19 = .ok (.getfield 340, 3) := by decide +kernel
theorem dX11_unwinding_22 : decode bX11_unwinding 22 = .ok (.areturn, 1) := by decide +kernel
set_option maxRecDepth 20000 in
set_option maxHeartbeats 4000000 in
theorem cX11_unwinding {l : Launch} {k : Kx} {F : Nat} {μ μ' : Mm} (hk : kok k) (e_this : kex k 11 0) (e_U : kex k 10 0) (hf : fX11_unwinding F μ = some μ') : MM l k 3 yX11_unwinding bX11_unwinding 1 (some (.object "RopeDance$Unwinding")) [.ref (kad k 11 0)] μ (some (.ref (kad k 10 0))) μ' := by
  refine MM.of (lv := [(0, .ref (kad k 11 0))]) (plainFor_of_name (by decide)) hk (Nat.le_of_ble_eq_true rfl) rfl (fun z hl hx => ?_)
  subst hl
  have hx : Ok z k bX11_unwinding 1 "RopeDance" (some (.object "RopeDance$Unwinding")) 3 (0, 0) := hx
  unfold fX11_unwinding at hf
  refine r_aloadn hx 0 rfl rfl dX11_unwinding_0 ?_
  refine r_getN hx (c' := 10) (i' := 0) FK11_11 e_this rfl wf_X11_340 dX11_unwinding_1 (fun q1 => ?_) (fun q1 e2 => ?_)
  · have hf := (f_ite hf).1 q1
    refine r_nonnullN hx dX11_unwinding_4 ?_
    refine r_aloadn hx 0 rfl rfl dX11_unwinding_7 ?_
    exact f_no hf
  · have hf := (f_ite hf).2 q1
    refine r_nonnullS (tgt := 18) hx rfl dX11_unwinding_4 ?_
    refine r_aloadn hx 0 rfl rfl dX11_unwinding_18 ?_
    refine r_getN hx (c' := 10) (i' := 0) FK11_11 e_this rfl wf_X11_340 dX11_unwinding_19 (fun q3 => absurd q3 q1) (fun _ e4 => ?_)
    exact r_aretR hx hf dX11_unwinding_22
theorem dX11_least_0 : decode bX11_least 0 = .ok (.aload_n 0, 1) := by decide +kernel
theorem dX11_least_1 : decode bX11_least 1 = .ok (.iload_n 1, 1) := by decide +kernel
theorem dX11_least_2 : decode bX11_least 2 = .ok (.invokevirtual 98, 3) := by decide +kernel
theorem dX11_least_5 : decode bX11_least 5 = .ok (.astore_n 2, 1) := by decide +kernel
theorem dX11_least_6 : decode bX11_least 6 = .ok (.aload_n 2, 1) := by decide +kernel
theorem dX11_least_7 : decode bX11_least 7 = .ok (.ifnonnull 7, 3) := by decide +kernel
theorem dX11_least_10 : decode bX11_least 10 = .ok (.iconst (-1), 1) := by decide +kernel
theorem dX11_least_11 : decode bX11_least 11 = .ok (.goto 18, 3) := by decide +kernel
theorem dX11_least_14 : decode bX11_least 14 = .ok (.aload_n 0, 1) := by decide +kernel
theorem dX11_least_15 : decode bX11_least 15 = .ok (.invokevirtual 179, 3) := by decide +kernel
theorem dX11_least_18 : decode bX11_least 18 = .ok (.aload_n 2, 1) := by decide +kernel
theorem dX11_least_19 : decode bX11_least 19 = .ok (.getfield 102, 3) := by decide +kernel
theorem dX11_least_22 : decode bX11_least 22 = .ok (.aload_n 2, 1) := by decide +kernel
theorem dX11_least_23 : decode bX11_least 23 = .ok (.getfield 105, 3) := by decide +kernel
theorem dX11_least_26 : decode bX11_least 26 = .ok (.invokevirtual 183, 3) := by decide +kernel
theorem dX11_least_29 : decode bX11_least 29 = .ok (.ireturn, 1) := by decide +kernel
set_option maxRecDepth 20000 in
set_option maxHeartbeats 4000000 in
theorem cX11_least {l : Launch} {k : Kx} {F : Nat} {a1 : Int32} {μ μ' : Mm} {r : Int32} (hk : kok k) (e_this : kex k 11 0) (e_U : kex k 10 0) (hf : fX11_least F a1 μ = some (r, μ')) : MM l k 4 yX11_least bX11_least 3 (some .int) [.ref (kad k 11 0), .int a1] μ (some (.int r)) μ' := by
  refine MM.of (lv := [(0, .ref (kad k 11 0)), (1, .int a1)]) (plainFor_of_name (by decide)) hk (Nat.le_of_ble_eq_true rfl) rfl (fun z hl hx => ?_)
  subst hl
  have hx : Ok z k bX11_least 3 "RopeDance" (some .int) 4 (0, 0) := hx
  unfold fX11_least at hf
  refine r_aloadn hx 0 rfl rfl dX11_least_0 ?_
  refine r_iloadn hx 1 rfl rfl dX11_least_1 ?_
  obtain ⟨r3, μ2, c1, hf⟩ := f_bd2 hf
  refine r_callV hx (As := [.int a1]) (rest := []) (st1 := [rp k 5 r3]) (c := 11) (i := 0) (TT := T11) (N := 12) MK_X11_squareAt rfl wi_X11_squareAt we_X11_squareAt wm_X11_98 ⟨Nat.le_refl _, Nat.le_refl _⟩ (cX11_squareAt hk e_this c1) e_this (Nat.le_of_ble_eq_true rfl) rfl rfl (Nat.le_of_ble_eq_true rfl) rfl dX11_least_2 (fun hb4 => ?_)
  cases r3 with
  | none =>
    have hf := f_on hf
    refine r_astorenN (lv' := [(2, .null), (0, .ref (kad k 11 0)), (1, .int a1)]) hx rfl (Nat.le_of_ble_eq_true rfl) rfl dX11_least_5 ?_
    refine r_aloadnN hx 0 rfl rfl dX11_least_6 ?_
    refine r_nonnullN hx dX11_least_7 ?_
    refine r_iconst hx ci_m1 dX11_least_10 ?_
    refine r_goto (tgt := 29) hx rfl dX11_least_11 ?_
    exact r_iret hx hf dX11_least_29
  | some i5 =>
    have hf := f_os hf
    have e6 : kex k 5 i5 := xX11_squareAt hk e_this c1
    refine r_astoren (lv' := [(2, .ref (kad k 5 i5)), (0, .ref (kad k 11 0)), (1, .int a1)]) hx rfl (Nat.le_of_ble_eq_true rfl) rfl dX11_least_5 ?_
    refine r_aloadn hx 0 rfl rfl dX11_least_6 ?_
    refine r_nonnullS (tgt := 14) hx rfl dX11_least_7 ?_
    refine r_aloadn hx 1 rfl rfl dX11_least_14 ?_
    obtain ⟨μ8, c7, hf⟩ := f_bd1 hf
    refine r_callV hx (As := []) (rest := []) (st1 := [.ref (kad k 10 0)]) (c := 11) (i := 0) (TT := T11) (N := 12) MK_X11_unwinding rfl wi_X11_unwinding we_X11_unwinding wm_X11_179 ⟨Nat.le_refl _, Nat.le_refl _⟩ (cX11_unwinding hk e_this e_U c7) e_this (Nat.le_of_ble_eq_true rfl) rfl rfl (Nat.le_of_ble_eq_true rfl) rfl dX11_least_15 (fun hb9 => ?_)
    refine r_aloadn hx 0 rfl rfl dX11_least_18 ?_
    refine r_getI hx FK5_0 e6 wf_X11_102 dX11_least_19 ?_
    refine r_aloadn hx 0 rfl rfl dX11_least_22 ?_
    refine r_getI hx FK5_1 e6 wf_X11_105 dX11_least_23 ?_
    obtain ⟨r12, μ11, c10, hf⟩ := f_bd2 hf
    refine r_callV hx (As := [.int (gi μ8 5 i5 0), .int (gi μ8 5 i5 1)]) (rest := []) (st1 := [.int r12]) (c := 10) (i := 0) (TT := T10) (N := 2) MK_X10_fewest rfl wi_X10_fewest we_X10_fewest wm_X11_183 ⟨Nat.le_refl _, Nat.le_refl _⟩ (cX10_fewest hk e_U c10) e_U (Nat.le_of_ble_eq_true rfl) rfl rfl (Nat.le_of_ble_eq_true rfl) rfl dX11_least_26 (fun hb13 => ?_)
    exact r_iret hx hf dX11_least_29
theorem dX11_ways_0 : decode bX11_ways 0 = .ok (.aload_n 0, 1) := by decide +kernel
theorem dX11_ways_1 : decode bX11_ways 1 = .ok (.iload_n 1, 1) := by decide +kernel
theorem dX11_ways_2 : decode bX11_ways 2 = .ok (.invokevirtual 98, 3) := by decide +kernel
theorem dX11_ways_5 : decode bX11_ways 5 = .ok (.astore_n 2, 1) := by decide +kernel
theorem dX11_ways_6 : decode bX11_ways 6 = .ok (.aload_n 2, 1) := by decide +kernel
theorem dX11_ways_7 : decode bX11_ways 7 = .ok (.ifnonnull 7, 3) := by decide +kernel
theorem dX11_ways_10 : decode bX11_ways 10 = .ok (.iconst (-1), 1) := by decide +kernel
theorem dX11_ways_11 : decode bX11_ways 11 = .ok (.goto 18, 3) := by decide +kernel
theorem dX11_ways_14 : decode bX11_ways 14 = .ok (.aload_n 0, 1) := by decide +kernel
theorem dX11_ways_15 : decode bX11_ways 15 = .ok (.invokevirtual 179, 3) := by decide +kernel
theorem dX11_ways_18 : decode bX11_ways 18 = .ok (.aload_n 2, 1) := by decide +kernel
theorem dX11_ways_19 : decode bX11_ways 19 = .ok (.getfield 102, 3) := by decide +kernel
theorem dX11_ways_22 : decode bX11_ways 22 = .ok (.aload_n 2, 1) := by decide +kernel
theorem dX11_ways_23 : decode bX11_ways 23 = .ok (.getfield 105, 3) := by decide +kernel
theorem dX11_ways_26 : decode bX11_ways 26 = .ok (.invokevirtual 189, 3) := by decide +kernel
theorem dX11_ways_29 : decode bX11_ways 29 = .ok (.ireturn, 1) := by decide +kernel
set_option maxRecDepth 20000 in
set_option maxHeartbeats 4000000 in
theorem cX11_ways {l : Launch} {k : Kx} {F : Nat} {a1 : Int32} {μ μ' : Mm} {r : Int32} (hk : kok k) (e_this : kex k 11 0) (e_U : kex k 10 0) (hf : fX11_ways F a1 μ = some (r, μ')) : MM l k 4 yX11_ways bX11_ways 3 (some .int) [.ref (kad k 11 0), .int a1] μ (some (.int r)) μ' := by
  refine MM.of (lv := [(0, .ref (kad k 11 0)), (1, .int a1)]) (plainFor_of_name (by decide)) hk (Nat.le_of_ble_eq_true rfl) rfl (fun z hl hx => ?_)
  subst hl
  have hx : Ok z k bX11_ways 3 "RopeDance" (some .int) 4 (0, 0) := hx
  unfold fX11_ways at hf
  refine r_aloadn hx 0 rfl rfl dX11_ways_0 ?_
  refine r_iloadn hx 1 rfl rfl dX11_ways_1 ?_
  obtain ⟨r3, μ2, c1, hf⟩ := f_bd2 hf
  refine r_callV hx (As := [.int a1]) (rest := []) (st1 := [rp k 5 r3]) (c := 11) (i := 0) (TT := T11) (N := 12) MK_X11_squareAt rfl wi_X11_squareAt we_X11_squareAt wm_X11_98 ⟨Nat.le_refl _, Nat.le_refl _⟩ (cX11_squareAt hk e_this c1) e_this (Nat.le_of_ble_eq_true rfl) rfl rfl (Nat.le_of_ble_eq_true rfl) rfl dX11_ways_2 (fun hb4 => ?_)
  cases r3 with
  | none =>
    have hf := f_on hf
    refine r_astorenN (lv' := [(2, .null), (0, .ref (kad k 11 0)), (1, .int a1)]) hx rfl (Nat.le_of_ble_eq_true rfl) rfl dX11_ways_5 ?_
    refine r_aloadnN hx 0 rfl rfl dX11_ways_6 ?_
    refine r_nonnullN hx dX11_ways_7 ?_
    refine r_iconst hx ci_m1 dX11_ways_10 ?_
    refine r_goto (tgt := 29) hx rfl dX11_ways_11 ?_
    exact r_iret hx hf dX11_ways_29
  | some i5 =>
    have hf := f_os hf
    have e6 : kex k 5 i5 := xX11_squareAt hk e_this c1
    refine r_astoren (lv' := [(2, .ref (kad k 5 i5)), (0, .ref (kad k 11 0)), (1, .int a1)]) hx rfl (Nat.le_of_ble_eq_true rfl) rfl dX11_ways_5 ?_
    refine r_aloadn hx 0 rfl rfl dX11_ways_6 ?_
    refine r_nonnullS (tgt := 14) hx rfl dX11_ways_7 ?_
    refine r_aloadn hx 1 rfl rfl dX11_ways_14 ?_
    obtain ⟨μ8, c7, hf⟩ := f_bd1 hf
    refine r_callV hx (As := []) (rest := []) (st1 := [.ref (kad k 10 0)]) (c := 11) (i := 0) (TT := T11) (N := 12) MK_X11_unwinding rfl wi_X11_unwinding we_X11_unwinding wm_X11_179 ⟨Nat.le_refl _, Nat.le_refl _⟩ (cX11_unwinding hk e_this e_U c7) e_this (Nat.le_of_ble_eq_true rfl) rfl rfl (Nat.le_of_ble_eq_true rfl) rfl dX11_ways_15 (fun hb9 => ?_)
    refine r_aloadn hx 0 rfl rfl dX11_ways_18 ?_
    refine r_getI hx FK5_0 e6 wf_X11_102 dX11_ways_19 ?_
    refine r_aloadn hx 0 rfl rfl dX11_ways_22 ?_
    refine r_getI hx FK5_1 e6 wf_X11_105 dX11_ways_23 ?_
    obtain ⟨r12, μ11, c10, hf⟩ := f_bd2 hf
    refine r_callV hx (As := [.int (gi μ8 5 i5 0), .int (gi μ8 5 i5 1)]) (rest := []) (st1 := [.int r12]) (c := 10) (i := 0) (TT := T10) (N := 2) MK_X10_howMany rfl wi_X10_howMany we_X10_howMany wm_X11_189 ⟨Nat.le_refl _, Nat.le_refl _⟩ (cX10_howMany hk e_U c10) e_U (Nat.le_of_ble_eq_true rfl) rfl rfl (Nat.le_of_ble_eq_true rfl) rfl dX11_ways_26 (fun hb13 => ?_)
    exact r_iret hx hf dX11_ways_29
theorem dX11_step_0 : decode bX11_step 0 = .ok (.aload_n 0, 1) := by decide +kernel
theorem dX11_step_1 : decode bX11_step 1 = .ok (.iload_n 1, 1) := by decide +kernel
theorem dX11_step_2 : decode bX11_step 2 = .ok (.invokevirtual 98, 3) := by decide +kernel
theorem dX11_step_5 : decode bX11_step 5 = .ok (.astore_n 3, 1) := by decide +kernel
theorem dX11_step_6 : decode bX11_step 6 = .ok (.aload_n 3, 1) := by decide +kernel
theorem dX11_step_7 : decode bX11_step 7 = .ok (.ifnonnull 9, 3) := by decide +kernel
theorem dX11_step_10 : decode bX11_step 10 = .ok (.sipush (-1000), 3) := by decide +kernel
theorem dX11_step_13 : decode bX11_step 13 = .ok (.goto 19, 3) := by decide +kernel
theorem dX11_step_16 : decode bX11_step 16 = .ok (.aload_n 0, 1) := by decide +kernel
theorem dX11_step_17 : decode bX11_step 17 = .ok (.invokevirtual 179, 3) := by decide +kernel
theorem dX11_step_20 : decode bX11_step 20 = .ok (.aload_n 3, 1) := by decide +kernel
theorem dX11_step_21 : decode bX11_step 21 = .ok (.getfield 102, 3) := by decide +kernel
theorem dX11_step_24 : decode bX11_step 24 = .ok (.aload_n 3, 1) := by decide +kernel
theorem dX11_step_25 : decode bX11_step 25 = .ok (.getfield 105, 3) := by decide +kernel
theorem dX11_step_28 : decode bX11_step 28 = .ok (.iload_n 2, 1) := by decide +kernel
theorem dX11_step_29 : decode bX11_step 29 = .ok (.invokevirtual 192, 3) := by decide +kernel
theorem dX11_step_32 : decode bX11_step 32 = .ok (.ireturn, 1) := by decide +kernel
set_option maxRecDepth 20000 in
set_option maxHeartbeats 4000000 in
theorem cX11_step {l : Launch} {k : Kx} {F : Nat} {a1 : Int32} {a2 : Int32} {μ μ' : Mm} {r : Int32} (hk : kok k) (e_this : kex k 11 0) (e_U : kex k 10 0) (hf : fX11_step F a1 a2 μ = some (r, μ')) : MM l k 4 yX11_step bX11_step 4 (some .int) [.ref (kad k 11 0), .int a1, .int a2] μ (some (.int r)) μ' := by
  refine MM.of (lv := [(0, .ref (kad k 11 0)), (1, .int a1), (2, .int a2)]) (plainFor_of_name (by decide)) hk (Nat.le_of_ble_eq_true rfl) rfl (fun z hl hx => ?_)
  subst hl
  have hx : Ok z k bX11_step 4 "RopeDance" (some .int) 4 (0, 0) := hx
  unfold fX11_step at hf
  refine r_aloadn hx 0 rfl rfl dX11_step_0 ?_
  refine r_iloadn hx 1 rfl rfl dX11_step_1 ?_
  obtain ⟨r3, μ2, c1, hf⟩ := f_bd2 hf
  refine r_callV hx (As := [.int a1]) (rest := []) (st1 := [rp k 5 r3]) (c := 11) (i := 0) (TT := T11) (N := 12) MK_X11_squareAt rfl wi_X11_squareAt we_X11_squareAt wm_X11_98 ⟨Nat.le_refl _, Nat.le_refl _⟩ (cX11_squareAt hk e_this c1) e_this (Nat.le_of_ble_eq_true rfl) rfl rfl (Nat.le_of_ble_eq_true rfl) rfl dX11_step_2 (fun hb4 => ?_)
  cases r3 with
  | none =>
    have hf := f_on hf
    refine r_astorenN (lv' := [(3, .null), (0, .ref (kad k 11 0)), (1, .int a1), (2, .int a2)]) hx rfl (Nat.le_of_ble_eq_true rfl) rfl dX11_step_5 ?_
    refine r_aloadnN hx 0 rfl rfl dX11_step_6 ?_
    refine r_nonnullN hx dX11_step_7 ?_
    refine r_sipush hx cs_m1000 dX11_step_10 ?_
    refine r_goto (tgt := 32) hx rfl dX11_step_13 ?_
    exact r_iret hx hf dX11_step_32
  | some i5 =>
    have hf := f_os hf
    have e6 : kex k 5 i5 := xX11_squareAt hk e_this c1
    refine r_astoren (lv' := [(3, .ref (kad k 5 i5)), (0, .ref (kad k 11 0)), (1, .int a1), (2, .int a2)]) hx rfl (Nat.le_of_ble_eq_true rfl) rfl dX11_step_5 ?_
    refine r_aloadn hx 0 rfl rfl dX11_step_6 ?_
    refine r_nonnullS (tgt := 16) hx rfl dX11_step_7 ?_
    refine r_aloadn hx 1 rfl rfl dX11_step_16 ?_
    obtain ⟨μ8, c7, hf⟩ := f_bd1 hf
    refine r_callV hx (As := []) (rest := []) (st1 := [.ref (kad k 10 0)]) (c := 11) (i := 0) (TT := T11) (N := 12) MK_X11_unwinding rfl wi_X11_unwinding we_X11_unwinding wm_X11_179 ⟨Nat.le_refl _, Nat.le_refl _⟩ (cX11_unwinding hk e_this e_U c7) e_this (Nat.le_of_ble_eq_true rfl) rfl rfl (Nat.le_of_ble_eq_true rfl) rfl dX11_step_17 (fun hb9 => ?_)
    refine r_aloadn hx 0 rfl rfl dX11_step_20 ?_
    refine r_getI hx FK5_0 e6 wf_X11_102 dX11_step_21 ?_
    refine r_aloadn hx 0 rfl rfl dX11_step_24 ?_
    refine r_getI hx FK5_1 e6 wf_X11_105 dX11_step_25 ?_
    refine r_iloadn hx 3 rfl rfl dX11_step_28 ?_
    obtain ⟨r12, μ11, c10, hf⟩ := f_bd2 hf
    refine r_callV hx (As := [.int (gi μ8 5 i5 0), .int (gi μ8 5 i5 1), .int a2]) (rest := []) (st1 := [.int r12]) (c := 10) (i := 0) (TT := T10) (N := 2) MK_X10_thing rfl wi_X10_thing we_X10_thing wm_X11_192 ⟨Nat.le_refl _, Nat.le_refl _⟩ (cX10_thing hk e_U c10) e_U (Nat.le_of_ble_eq_true rfl) rfl rfl (Nat.le_of_ble_eq_true rfl) rfl dX11_step_29 (fun hb13 => ?_)
    exact r_iret hx hf dX11_step_32
theorem dX11_searchFrom_0 : decode bX11_searchFrom 0 = .ok (.aload_n 0, 1) := by decide +kernel
theorem dX11_searchFrom_1 : decode bX11_searchFrom 1 = .ok (.getfield 330, 3) := by decide +kernel
theorem dX11_searchFrom_4 : decode bX11_searchFrom 4 = .ok (.ifnonnull 14, 3) := by decide +kernel
theorem dX11_searchFrom_7 : decode bX11_searchFrom 7 = .ok (.aload_n 0, 1) := by decide +kernel
theorem dX11_searchFrom_18 : decode bX11_searchFrom 18 = .ok (.aload_n 0, 1) := by decide +kernel
theorem dX11_searchFrom_19 : decode bX11_searchFrom 19 = .ok (.getfield 330, 3) := by decide +kernel
theorem dX11_searchFrom_22 : decode bX11_searchFrom 22 = .ok (.aload_n 0, 1) := by decide +kernel
theorem dX11_searchFrom_23 : decode bX11_searchFrom 23 = .ok (.getfield 19, 3) := by decide +kernel
theorem dX11_searchFrom_26 : decode bX11_searchFrom 26 = .ok (.aload_n 1, 1) := by decide +kernel
theorem dX11_searchFrom_27 : decode bX11_searchFrom 27 = .ok (.invokevirtual 345, 3) := by decide +kernel
theorem dX11_searchFrom_30 : decode bX11_searchFrom 30 = .ok (.aload_n 0, 1) := by decide +kernel
theorem dX11_searchFrom_31 : decode bX11_searchFrom 31 = .ok (.getfield 330, 3) := by decide +kernel
theorem dX11_searchFrom_34 : decode bX11_searchFrom 34 = .ok (.areturn, 1) := by decide +kernel
set_option maxRecDepth 20000 in
set_option maxHeartbeats 4000000 in
theorem cX11_searchFrom {l : Launch} {k : Kx} {F : Nat} {a1 : Nat} {μ μ' : Mm} (hk : kok k) (e_this : kex k 11 0) (e_a1 : kex k 5 a1) (e_S : kex k 4 0) (hf : fX11_searchFrom F a1 μ = some μ') : MM l k 4 yX11_searchFrom bX11_searchFrom 2 (some (.object "RopeDance$Search")) [.ref (kad k 11 0), .ref (kad k 5 a1)] μ (some (.ref (kad k 4 0))) μ' := by
  refine MM.of (lv := [(0, .ref (kad k 11 0)), (1, .ref (kad k 5 a1))]) (plainFor_of_name (by decide)) hk (Nat.le_of_ble_eq_true rfl) rfl (fun z hl hx => ?_)
  subst hl
  have hx : Ok z k bX11_searchFrom 2 "RopeDance" (some (.object "RopeDance$Search")) 4 (0, 0) := hx
  have L18 : ∀ (v1 : Nat) (μ : Mm) (e_v0 : kex k 11 0) (e_v1 : kex k 5 v1), fX11_searchFrom_L18 F v1 μ = some μ' → Gw z k 2 (k, (0, 0), (some (.object "RopeDance$Search")), (some (.ref (kad k 4 0))), μ') (0, 0) 18 μ [(0, .ref (kad k 11 0)), (1, .ref (kad k 5 v1))] [] := by
    intro  v1 μ e_v0 e_v1 hf
    unfold fX11_searchFrom_L18 at hf
    refine r_aloadn hx 0 rfl rfl dX11_searchFrom_18 ?_
    refine r_getN hx (c' := 4) (i' := 0) FK11_10 e_v0 rfl wf_X11_330 dX11_searchFrom_19 (fun q3 => ?_) (fun q3 e4 => ?_)
    · have hf := (f_ite hf).1 q3
      refine r_aloadn hx 0 rfl rfl dX11_searchFrom_22 ?_
      refine r_getT hx FK11_2 e_v0 (by decide) wf_X11_19 dX11_searchFrom_23 (fun e5 => ?_)
      refine r_aloadn hx 1 rfl rfl dX11_searchFrom_26 ?_
      exact f_no hf
    · have hf := (f_ite hf).2 q3
      refine r_aloadn hx 0 rfl rfl dX11_searchFrom_22 ?_
      refine r_getT hx FK11_2 e_v0 (by decide) wf_X11_19 dX11_searchFrom_23 (fun e6 => ?_)
      refine r_aloadn hx 1 rfl rfl dX11_searchFrom_26 ?_
      obtain ⟨μ8, c7, hf⟩ := f_bd1 hf
      refine r_callV hx (As := [.ref (kad k 8 (tx (gi μ 11 0 2))), .ref (kad k 5 v1)]) (rest := []) (st1 := []) (c := 4) (i := 0) (TT := T4) (N := 5) MK_X4_spread rfl wi_X4_spread we_X4_spread wm_X11_345 ⟨Nat.le_refl _, Nat.le_refl _⟩ (cX4_spread hk e4 e6 e_v1 c7) e4 (Nat.le_of_ble_eq_true rfl) rfl rfl (Nat.le_of_ble_eq_true rfl) rfl dX11_searchFrom_27 (fun hb9 => ?_)
      refine r_aloadn hx 0 rfl rfl dX11_searchFrom_30 ?_
      refine r_getN hx (c' := 4) (i' := 0) FK11_10 e_v0 rfl wf_X11_330 dX11_searchFrom_31 (fun q10 => ?_) (fun q10 e11 => ?_)
      · have hf := (f_ite hf).1 q10
        exact f_no hf
      · have hf := (f_ite hf).2 q10
        exact r_aretR hx hf dX11_searchFrom_34
  unfold fX11_searchFrom at hf
  refine r_aloadn hx 0 rfl rfl dX11_searchFrom_0 ?_
  refine r_getN hx (c' := 4) (i' := 0) FK11_10 e_this rfl wf_X11_330 dX11_searchFrom_1 (fun q1 => ?_) (fun q1 e2 => ?_)
  · have hf := (f_ite hf).1 q1
    refine r_nonnullN hx dX11_searchFrom_4 ?_
    refine r_aloadn hx 0 rfl rfl dX11_searchFrom_7 ?_
    exact f_no hf
  · have hf := (f_ite hf).2 q1
    refine r_nonnullS (tgt := 18) hx rfl dX11_searchFrom_4 ?_
    refine r_sub [0, 1] rfl ?_
    exact L18  a1 μ e_this e_a1 hf
theorem dX11_figuresTo_0 : decode bX11_figuresTo 0 = .ok (.aload_n 2, 1) := by decide +kernel
theorem dX11_figuresTo_1 : decode bX11_figuresTo 1 = .ok (.getfield 102, 3) := by decide +kernel
theorem dX11_figuresTo_4 : decode bX11_figuresTo 4 = .ok (.aload_n 2, 1) := by decide +kernel
theorem dX11_figuresTo_5 : decode bX11_figuresTo 5 = .ok (.getfield 105, 3) := by decide +kernel
theorem dX11_figuresTo_8 : decode bX11_figuresTo 8 = .ok (.invokestatic 349, 3) := by decide +kernel
theorem dX11_figuresTo_11 : decode bX11_figuresTo 11 = .ok (.istore 4, 2) := by decide +kernel
theorem dX11_figuresTo_13 : decode bX11_figuresTo 13 = .ok (.aload_n 0, 1) := by decide +kernel
theorem dX11_figuresTo_14 : decode bX11_figuresTo 14 = .ok (.aload_n 1, 1) := by decide +kernel
theorem dX11_figuresTo_15 : decode bX11_figuresTo 15 = .ok (.invokevirtual 200, 3) := by decide +kernel
theorem dX11_figuresTo_18 : decode bX11_figuresTo 18 = .ok (.astore 5, 2) := by decide +kernel
theorem dX11_figuresTo_20 : decode bX11_figuresTo 20 = .ok (.aload 5, 2) := by decide +kernel
theorem dX11_figuresTo_22 : decode bX11_figuresTo 22 = .ok (.iload 4, 2) := by decide +kernel
theorem dX11_figuresTo_24 : decode bX11_figuresTo 24 = .ok (.invokevirtual 352, 3) := by decide +kernel
theorem dX11_figuresTo_27 : decode bX11_figuresTo 27 = .ok (.istore 6, 2) := by decide +kernel
theorem dX11_figuresTo_29 : decode bX11_figuresTo 29 = .ok (.iload 6, 2) := by decide +kernel
theorem dX11_figuresTo_31 : decode bX11_figuresTo 31 = .ok (.iconst (-1), 1) := by decide +kernel
theorem dX11_figuresTo_32 : decode bX11_figuresTo 32 = .ok (.if_icmp .ne 6, 3) := by decide +kernel
theorem dX11_figuresTo_35 : decode bX11_figuresTo 35 = .ok (.bipush (-2), 2) := by decide +kernel
theorem dX11_figuresTo_37 : decode bX11_figuresTo 37 = .ok (.ireturn, 1) := by decide +kernel
theorem dX11_figuresTo_38 : decode bX11_figuresTo 38 = .ok (.iload_n 3, 1) := by decide +kernel
theorem dX11_figuresTo_39 : decode bX11_figuresTo 39 = .ok (.iconst (-1), 1) := by decide +kernel
theorem dX11_figuresTo_40 : decode bX11_figuresTo 40 = .ok (.if_icmp .ne 6, 3) := by decide +kernel
theorem dX11_figuresTo_43 : decode bX11_figuresTo 43 = .ok (.iload 6, 2) := by decide +kernel
theorem dX11_figuresTo_45 : decode bX11_figuresTo 45 = .ok (.ireturn, 1) := by decide +kernel
theorem dX11_figuresTo_46 : decode bX11_figuresTo 46 = .ok (.iload_n 3, 1) := by decide +kernel
theorem dX11_figuresTo_47 : decode bX11_figuresTo 47 = .ok (.iload 6, 2) := by decide +kernel
theorem dX11_figuresTo_49 : decode bX11_figuresTo 49 = .ok (.if_icmp .ge 19, 3) := by decide +kernel
theorem dX11_figuresTo_52 : decode bX11_figuresTo 52 = .ok (.aload 5, 2) := by decide +kernel
theorem dX11_figuresTo_54 : decode bX11_figuresTo 54 = .ok (.iload 4, 2) := by decide +kernel
theorem dX11_figuresTo_56 : decode bX11_figuresTo 56 = .ok (.iload 6, 2) := by decide +kernel
theorem dX11_figuresTo_58 : decode bX11_figuresTo 58 = .ok (.iconst 1, 1) := by decide +kernel
theorem dX11_figuresTo_59 : decode bX11_figuresTo 59 = .ok (.isub, 1) := by decide +kernel
theorem dX11_figuresTo_60 : decode bX11_figuresTo 60 = .ok (.iload_n 3, 1) := by decide +kernel
theorem dX11_figuresTo_61 : decode bX11_figuresTo 61 = .ok (.isub, 1) := by decide +kernel
theorem dX11_figuresTo_62 : decode bX11_figuresTo 62 = .ok (.invokevirtual 355, 3) := by decide +kernel
theorem dX11_figuresTo_65 : decode bX11_figuresTo 65 = .ok (.goto 4, 3) := by decide +kernel
theorem dX11_figuresTo_68 : decode bX11_figuresTo 68 = .ok (.iconst (-1), 1) := by decide +kernel
theorem dX11_figuresTo_69 : decode bX11_figuresTo 69 = .ok (.ireturn, 1) := by decide +kernel
set_option maxRecDepth 20000 in
set_option maxHeartbeats 4000000 in
theorem cX11_figuresTo {l : Launch} {k : Kx} {F : Nat} {a1 : Nat} {a2 : Nat} {a3 : Int32} {μ μ' : Mm} {r : Int32} (hk : kok k) (e_this : kex k 11 0) (e_a1 : kex k 5 a1) (e_a2 : kex k 5 a2) (e_S : kex k 4 0) (hf : fX11_figuresTo F a1 a2 a3 μ = some (r, μ')) : MM l k 5 yX11_figuresTo bX11_figuresTo 7 (some .int) [.ref (kad k 11 0), .ref (kad k 5 a1), .ref (kad k 5 a2), .int a3] μ (some (.int r)) μ' := by
  refine MM.of (lv := [(0, .ref (kad k 11 0)), (1, .ref (kad k 5 a1)), (2, .ref (kad k 5 a2)), (3, .int a3)]) (plainFor_of_name (by decide)) hk (Nat.le_of_ble_eq_true rfl) rfl (fun z hl hx => ?_)
  subst hl
  have hx : Ok z k bX11_figuresTo 7 "RopeDance" (some .int) 5 (0, 0) := hx
  unfold fX11_figuresTo at hf
  refine r_aloadn hx 2 rfl rfl dX11_figuresTo_0 ?_
  refine r_getI hx FK5_0 e_a2 wf_X11_102 dX11_figuresTo_1 ?_
  refine r_aloadn hx 2 rfl rfl dX11_figuresTo_4 ?_
  refine r_getI hx FK5_1 e_a2 wf_X11_105 dX11_figuresTo_5 ?_
  obtain ⟨r3, μ2, c1, hf⟩ := f_bd2 hf
  refine r_callS hx (As := [.int (gi μ 5 a2 0), .int (gi μ 5 a2 1)]) (rest := []) (st1 := [.int r3]) MK_X4_number ws_X4_number wm_X11_349 ⟨Nat.le_refl _, Nat.le_refl _⟩ (cX4_number hk c1) (Nat.le_of_ble_eq_true rfl) rfl rfl (Nat.le_of_ble_eq_true rfl) rfl dX11_figuresTo_8 (fun hb4 => ?_)
  refine r_istore (lv' := [(4, .int r3), (0, .ref (kad k 11 0)), (1, .ref (kad k 5 a1)), (2, .ref (kad k 5 a2)), (3, .int a3)]) hx (Nat.le_of_ble_eq_true rfl) rfl dX11_figuresTo_11 ?_
  refine r_aloadn hx 1 rfl rfl dX11_figuresTo_13 ?_
  refine r_aloadn hx 2 rfl rfl dX11_figuresTo_14 ?_
  obtain ⟨μ6, c5, hf⟩ := f_bd1 hf
  refine r_callV hx (As := [.ref (kad k 5 a1)]) (rest := []) (st1 := [.ref (kad k 4 0)]) (c := 11) (i := 0) (TT := T11) (N := 12) MK_X11_searchFrom rfl wi_X11_searchFrom we_X11_searchFrom wm_X11_200 ⟨Nat.le_refl _, Nat.le_refl _⟩ (cX11_searchFrom hk e_this e_a1 e_S c5) e_this (Nat.le_of_ble_eq_true rfl) rfl rfl (Nat.le_of_ble_eq_true rfl) rfl dX11_figuresTo_15 (fun hb7 => ?_)
  refine r_astore (lv' := [(5, .ref (kad k 4 0)), (4, .int r3), (0, .ref (kad k 11 0)), (1, .ref (kad k 5 a1)), (2, .ref (kad k 5 a2)), (3, .int a3)]) hx (Nat.le_of_ble_eq_true rfl) rfl dX11_figuresTo_18 ?_
  refine r_aload hx 0 rfl dX11_figuresTo_20 ?_
  refine r_iload hx 1 rfl dX11_figuresTo_22 ?_
  obtain ⟨r10, μ9, c8, hf⟩ := f_bd2 hf
  refine r_callV hx (As := [.int r3]) (rest := []) (st1 := [.int r10]) (c := 4) (i := 0) (TT := T4) (N := 5) MK_X4_lengthTo rfl wi_X4_lengthTo we_X4_lengthTo wm_X11_352 ⟨Nat.le_refl _, Nat.le_refl _⟩ (cX4_lengthTo hk e_S c8) e_S (Nat.le_of_ble_eq_true rfl) rfl rfl (Nat.le_of_ble_eq_true rfl) rfl dX11_figuresTo_24 (fun hb11 => ?_)
  refine r_istore (lv' := [(6, .int r10), (5, .ref (kad k 4 0)), (4, .int r3), (0, .ref (kad k 11 0)), (1, .ref (kad k 5 a1)), (2, .ref (kad k 5 a2)), (3, .int a3)]) hx (Nat.le_of_ble_eq_true rfl) rfl dX11_figuresTo_27 ?_
  refine r_iload hx 0 rfl dX11_figuresTo_29 ?_
  refine r_iconst hx ci_m1 dX11_figuresTo_31 ?_
  refine r_icne (tgt := 38) hx rfl dX11_figuresTo_32 (fun q12 => ?_) (fun q12 => ?_)
  · have hf := (f_ite hf).2 q12
    refine r_iloadn hx 6 rfl rfl dX11_figuresTo_38 ?_
    refine r_iconst hx ci_m1 dX11_figuresTo_39 ?_
    refine r_icne (tgt := 46) hx rfl dX11_figuresTo_40 (fun q13 => ?_) (fun q13 => ?_)
    · have hf := (f_ite hf).2 q13
      refine r_iloadn hx 6 rfl rfl dX11_figuresTo_46 ?_
      refine r_iload hx 0 rfl dX11_figuresTo_47 ?_
      refine r_icge (tgt := 68) hx rfl dX11_figuresTo_49 (fun q14 => ?_) (fun q14 => ?_)
      · have hf := (f_ite hf).1 q14
        refine r_iconst hx ci_m1 dX11_figuresTo_68 ?_
        exact r_iret hx hf dX11_figuresTo_69
      · have hf := (f_ite hf).2 q14
        refine r_aload hx 1 rfl dX11_figuresTo_52 ?_
        refine r_iload hx 2 rfl dX11_figuresTo_54 ?_
        refine r_iload hx 0 rfl dX11_figuresTo_56 ?_
        refine r_iconst hx ci_1 dX11_figuresTo_58 ?_
        refine r_isub hx dX11_figuresTo_59 ?_
        refine r_iloadn hx 6 rfl rfl dX11_figuresTo_60 ?_
        refine r_isub hx dX11_figuresTo_61 ?_
        obtain ⟨r17, μ16, c15, hf⟩ := f_bd2 hf
        refine r_callV hx (As := [.int r3, .int ((r10 - 1) - a3)]) (rest := []) (st1 := [.int r17]) (c := 4) (i := 0) (TT := T4) (N := 5) MK_X4_figureBeforeLast rfl wi_X4_figureBeforeLast we_X4_figureBeforeLast wm_X11_355 ⟨Nat.le_refl _, Nat.le_refl _⟩ (cX4_figureBeforeLast hk e_S c15) e_S (Nat.le_of_ble_eq_true rfl) rfl rfl (Nat.le_of_ble_eq_true rfl) rfl dX11_figuresTo_62 (fun hb18 => ?_)
        refine r_goto (tgt := 69) hx rfl dX11_figuresTo_65 ?_
        exact r_iret hx hf dX11_figuresTo_69
    · have hf := (f_ite hf).1 q13
      refine r_iload hx 0 rfl dX11_figuresTo_43 ?_
      exact r_iret hx hf dX11_figuresTo_45
  · have hf := (f_ite hf).1 q12
    refine r_bipush hx cb_m2 dX11_figuresTo_35 ?_
    exact r_iret hx hf dX11_figuresTo_37
theorem dX11_plan_0 : decode bX11_plan 0 = .ok (.aload_n 0, 1) := by decide +kernel
theorem dX11_plan_1 : decode bX11_plan 1 = .ok (.iload_n 1, 1) := by decide +kernel
theorem dX11_plan_2 : decode bX11_plan 2 = .ok (.invokevirtual 98, 3) := by decide +kernel
theorem dX11_plan_5 : decode bX11_plan 5 = .ok (.astore_n 3, 1) := by decide +kernel
theorem dX11_plan_6 : decode bX11_plan 6 = .ok (.aload_n 3, 1) := by decide +kernel
theorem dX11_plan_7 : decode bX11_plan 7 = .ok (.ifnull 8, 3) := by decide +kernel
theorem dX11_plan_10 : decode bX11_plan 10 = .ok (.iload_n 2, 1) := by decide +kernel
theorem dX11_plan_11 : decode bX11_plan 11 = .ok (.iconst (-1), 1) := by decide +kernel
theorem dX11_plan_12 : decode bX11_plan 12 = .ok (.if_icmp .ge 5, 3) := by decide +kernel
theorem dX11_plan_15 : decode bX11_plan 15 = .ok (.iconst (-1), 1) := by decide +kernel
theorem dX11_plan_16 : decode bX11_plan 16 = .ok (.ireturn, 1) := by decide +kernel
theorem dX11_plan_17 : decode bX11_plan 17 = .ok (.aload_n 0, 1) := by decide +kernel
theorem dX11_plan_18 : decode bX11_plan 18 = .ok (.getfield 59, 3) := by decide +kernel
theorem dX11_plan_21 : decode bX11_plan 21 = .ok (.invokevirtual 169, 3) := by decide +kernel
theorem dX11_plan_24 : decode bX11_plan 24 = .ok (.aload_n 0, 1) := by decide +kernel
theorem dX11_plan_25 : decode bX11_plan 25 = .ok (.aload_n 3, 1) := by decide +kernel
theorem dX11_plan_26 : decode bX11_plan 26 = .ok (.aload_n 0, 1) := by decide +kernel
theorem dX11_plan_27 : decode bX11_plan 27 = .ok (.getfield 59, 3) := by decide +kernel
theorem dX11_plan_30 : decode bX11_plan 30 = .ok (.iload_n 2, 1) := by decide +kernel
theorem dX11_plan_31 : decode bX11_plan 31 = .ok (.invokevirtual 196, 3) := by decide +kernel
theorem dX11_plan_34 : decode bX11_plan 34 = .ok (.ireturn, 1) := by decide +kernel
set_option maxRecDepth 20000 in
set_option maxHeartbeats 4000000 in
theorem cX11_plan {l : Launch} {k : Kx} {F : Nat} {a1 : Int32} {a2 : Int32} {μ μ' : Mm} {r : Int32} (hk : kok k) (e_this : kex k 11 0) (e_S : kex k 4 0) (hf : fX11_plan F a1 a2 μ = some (r, μ')) : MM l k 6 yX11_plan bX11_plan 4 (some .int) [.ref (kad k 11 0), .int a1, .int a2] μ (some (.int r)) μ' := by
  refine MM.of (lv := [(0, .ref (kad k 11 0)), (1, .int a1), (2, .int a2)]) (plainFor_of_name (by decide)) hk (Nat.le_of_ble_eq_true rfl) rfl (fun z hl hx => ?_)
  subst hl
  have hx : Ok z k bX11_plan 4 "RopeDance" (some .int) 6 (0, 0) := hx
  unfold fX11_plan at hf
  refine r_aloadn hx 0 rfl rfl dX11_plan_0 ?_
  refine r_iloadn hx 1 rfl rfl dX11_plan_1 ?_
  obtain ⟨r3, μ2, c1, hf⟩ := f_bd2 hf
  refine r_callV hx (As := [.int a1]) (rest := []) (st1 := [rp k 5 r3]) (c := 11) (i := 0) (TT := T11) (N := 12) MK_X11_squareAt rfl wi_X11_squareAt we_X11_squareAt wm_X11_98 ⟨Nat.le_refl _, Nat.le_refl _⟩ (cX11_squareAt hk e_this c1) e_this (Nat.le_of_ble_eq_true rfl) rfl rfl (Nat.le_of_ble_eq_true rfl) rfl dX11_plan_2 (fun hb4 => ?_)
  cases r3 with
  | none =>
    have hf := f_on hf
    refine r_astorenN (lv' := [(3, .null), (0, .ref (kad k 11 0)), (1, .int a1), (2, .int a2)]) hx rfl (Nat.le_of_ble_eq_true rfl) rfl dX11_plan_5 ?_
    refine r_aloadnN hx 0 rfl rfl dX11_plan_6 ?_
    refine r_nullN (tgt := 15) hx rfl dX11_plan_7 ?_
    refine r_iconst hx ci_m1 dX11_plan_15 ?_
    exact r_iret hx hf dX11_plan_16
  | some i5 =>
    have hf := f_os hf
    have e6 : kex k 5 i5 := xX11_squareAt hk e_this c1
    refine r_astoren (lv' := [(3, .ref (kad k 5 i5)), (0, .ref (kad k 11 0)), (1, .int a1), (2, .int a2)]) hx rfl (Nat.le_of_ble_eq_true rfl) rfl dX11_plan_5 ?_
    refine r_aloadn hx 0 rfl rfl dX11_plan_6 ?_
    refine r_nullS hx dX11_plan_7 ?_
    refine r_iloadn hx 3 rfl rfl dX11_plan_10 ?_
    refine r_iconst hx ci_m1 dX11_plan_11 ?_
    refine r_icge (tgt := 17) hx rfl dX11_plan_12 (fun q7 => ?_) (fun q7 => ?_)
    · have hf := (f_ite hf).1 q7
      refine r_aloadn hx 1 rfl rfl dX11_plan_17 ?_
      refine r_getR hx (c' := 5) (i' := 4) FK11_7 e_this rfl wf_X11_59 dX11_plan_18 (fun e8 => ?_)
      obtain ⟨μ10, c9, hf⟩ := f_bd1 hf
      refine r_callV hx (As := []) (rest := []) (st1 := []) (c := 5) (i := 4) (TT := T5) (N := 4) MK_X5_letGo rfl wi_X5_letGo we_X5_letGo wm_X11_169 ⟨Nat.le_refl _, Nat.le_refl _⟩ (cX5_letGo hk e8 c9) e8 (Nat.le_of_ble_eq_true rfl) rfl rfl (Nat.le_of_ble_eq_true rfl) rfl dX11_plan_21 (fun hb11 => ?_)
      refine r_aloadn hx 1 rfl rfl dX11_plan_24 ?_
      refine r_aloadn hx 0 rfl rfl dX11_plan_25 ?_
      refine r_aloadn hx 1 rfl rfl dX11_plan_26 ?_
      refine r_getR hx (c' := 5) (i' := 4) FK11_7 e_this rfl wf_X11_59 dX11_plan_27 (fun e12 => ?_)
      refine r_iloadn hx 3 rfl rfl dX11_plan_30 ?_
      obtain ⟨r15, μ14, c13, hf⟩ := f_bd2 hf
      refine r_callV hx (As := [.ref (kad k 5 i5), .ref (kad k 5 4), .int a2]) (rest := []) (st1 := [.int r15]) (c := 11) (i := 0) (TT := T11) (N := 12) MK_X11_figuresTo rfl wi_X11_figuresTo we_X11_figuresTo wm_X11_196 ⟨Nat.le_refl _, Nat.le_refl _⟩ (cX11_figuresTo hk e_this e6 e12 e_S c13) e_this (Nat.le_of_ble_eq_true rfl) rfl rfl (Nat.le_of_ble_eq_true rfl) rfl dX11_plan_31 (fun hb16 => ?_)
      exact r_iret hx hf dX11_plan_34
    · have hf := (f_ite hf).2 q7
      refine r_iconst hx ci_m1 dX11_plan_15 ?_
      exact r_iret hx hf dX11_plan_16
theorem dX11_bring_0 : decode bX11_bring 0 = .ok (.aload_n 0, 1) := by decide +kernel
theorem dX11_bring_1 : decode bX11_bring 1 = .ok (.iload_n 1, 1) := by decide +kernel
theorem dX11_bring_2 : decode bX11_bring 2 = .ok (.invokevirtual 98, 3) := by decide +kernel
theorem dX11_bring_5 : decode bX11_bring 5 = .ok (.astore 4, 2) := by decide +kernel
theorem dX11_bring_7 : decode bX11_bring 7 = .ok (.aload_n 0, 1) := by decide +kernel
theorem dX11_bring_8 : decode bX11_bring 8 = .ok (.iload_n 2, 1) := by decide +kernel
theorem dX11_bring_9 : decode bX11_bring 9 = .ok (.invokevirtual 98, 3) := by decide +kernel
theorem dX11_bring_12 : decode bX11_bring 12 = .ok (.astore 5, 2) := by decide +kernel
theorem dX11_bring_14 : decode bX11_bring 14 = .ok (.aload 4, 2) := by decide +kernel
theorem dX11_bring_16 : decode bX11_bring 16 = .ok (.ifnull 18, 3) := by decide +kernel
theorem dX11_bring_19 : decode bX11_bring 19 = .ok (.aload 5, 2) := by decide +kernel
theorem dX11_bring_21 : decode bX11_bring 21 = .ok (.ifnull 13, 3) := by decide +kernel
theorem dX11_bring_24 : decode bX11_bring 24 = .ok (.iload_n 1, 1) := by decide +kernel
theorem dX11_bring_25 : decode bX11_bring 25 = .ok (.iload_n 2, 1) := by decide +kernel
theorem dX11_bring_26 : decode bX11_bring 26 = .ok (.if_icmp .eq 8, 3) := by decide +kernel
theorem dX11_bring_29 : decode bX11_bring 29 = .ok (.iload_n 3, 1) := by decide +kernel
theorem dX11_bring_30 : decode bX11_bring 30 = .ok (.iconst (-1), 1) := by decide +kernel
theorem dX11_bring_31 : decode bX11_bring 31 = .ok (.if_icmp .ge 5, 3) := by decide +kernel
theorem dX11_bring_34 : decode bX11_bring 34 = .ok (.iconst (-1), 1) := by decide +kernel
theorem dX11_bring_35 : decode bX11_bring 35 = .ok (.ireturn, 1) := by decide +kernel
theorem dX11_bring_36 : decode bX11_bring 36 = .ok (.aload_n 0, 1) := by decide +kernel
theorem dX11_bring_37 : decode bX11_bring 37 = .ok (.aload 4, 2) := by decide +kernel
theorem dX11_bring_39 : decode bX11_bring 39 = .ok (.aload 5, 2) := by decide +kernel
theorem dX11_bring_41 : decode bX11_bring 41 = .ok (.iload_n 3, 1) := by decide +kernel
theorem dX11_bring_42 : decode bX11_bring 42 = .ok (.invokevirtual 196, 3) := by decide +kernel
theorem dX11_bring_45 : decode bX11_bring 45 = .ok (.ireturn, 1) := by decide +kernel
set_option maxRecDepth 20000 in
set_option maxHeartbeats 4000000 in
theorem cX11_bring {l : Launch} {k : Kx} {F : Nat} {a1 : Int32} {a2 : Int32} {a3 : Int32} {μ μ' : Mm} {r : Int32} (hk : kok k) (e_this : kex k 11 0) (e_S : kex k 4 0) (hf : fX11_bring F a1 a2 a3 μ = some (r, μ')) : MM l k 6 yX11_bring bX11_bring 6 (some .int) [.ref (kad k 11 0), .int a1, .int a2, .int a3] μ (some (.int r)) μ' := by
  refine MM.of (lv := [(0, .ref (kad k 11 0)), (1, .int a1), (2, .int a2), (3, .int a3)]) (plainFor_of_name (by decide)) hk (Nat.le_of_ble_eq_true rfl) rfl (fun z hl hx => ?_)
  subst hl
  have hx : Ok z k bX11_bring 6 "RopeDance" (some .int) 6 (0, 0) := hx
  unfold fX11_bring at hf
  refine r_aloadn hx 0 rfl rfl dX11_bring_0 ?_
  refine r_iloadn hx 1 rfl rfl dX11_bring_1 ?_
  obtain ⟨r3, μ2, c1, hf⟩ := f_bd2 hf
  refine r_callV hx (As := [.int a1]) (rest := []) (st1 := [rp k 5 r3]) (c := 11) (i := 0) (TT := T11) (N := 12) MK_X11_squareAt rfl wi_X11_squareAt we_X11_squareAt wm_X11_98 ⟨Nat.le_refl _, Nat.le_refl _⟩ (cX11_squareAt hk e_this c1) e_this (Nat.le_of_ble_eq_true rfl) rfl rfl (Nat.le_of_ble_eq_true rfl) rfl dX11_bring_2 (fun hb4 => ?_)
  cases r3 with
  | none =>
    have hf := f_on hf
    refine r_astoreN (lv' := [(4, .null), (0, .ref (kad k 11 0)), (1, .int a1), (2, .int a2), (3, .int a3)]) hx (Nat.le_of_ble_eq_true rfl) rfl dX11_bring_5 ?_
    refine r_aloadn hx 1 rfl rfl dX11_bring_7 ?_
    refine r_iloadn hx 3 rfl rfl dX11_bring_8 ?_
    obtain ⟨r9, μ8, c7, hf⟩ := f_bd2 hf
    refine r_callV hx (As := [.int a2]) (rest := []) (st1 := [rp k 5 r9]) (c := 11) (i := 0) (TT := T11) (N := 12) MK_X11_squareAt rfl wi_X11_squareAt we_X11_squareAt wm_X11_98 ⟨Nat.le_refl _, Nat.le_refl _⟩ (cX11_squareAt hk e_this c7) e_this (Nat.le_of_ble_eq_true rfl) rfl rfl (Nat.le_of_ble_eq_true rfl) rfl dX11_bring_9 (fun hb10 => ?_)
    cases r9 with
    | none =>
      have hf := f_on hf
      refine r_astoreN (lv' := [(5, .null), (4, .null), (0, .ref (kad k 11 0)), (1, .int a1), (2, .int a2), (3, .int a3)]) hx (Nat.le_of_ble_eq_true rfl) rfl dX11_bring_12 ?_
      refine r_aloadN hx 1 rfl dX11_bring_14 ?_
      refine r_nullN (tgt := 34) hx rfl dX11_bring_16 ?_
      refine r_iconst hx ci_m1 dX11_bring_34 ?_
      exact r_iret hx hf dX11_bring_35
    | some i11 =>
      have hf := f_os hf
      have e12 : kex k 5 i11 := xX11_squareAt hk e_this c7
      refine r_astore (lv' := [(5, .ref (kad k 5 i11)), (4, .null), (0, .ref (kad k 11 0)), (1, .int a1), (2, .int a2), (3, .int a3)]) hx (Nat.le_of_ble_eq_true rfl) rfl dX11_bring_12 ?_
      refine r_aloadN hx 1 rfl dX11_bring_14 ?_
      refine r_nullN (tgt := 34) hx rfl dX11_bring_16 ?_
      refine r_iconst hx ci_m1 dX11_bring_34 ?_
      exact r_iret hx hf dX11_bring_35
  | some i5 =>
    have hf := f_os hf
    have e6 : kex k 5 i5 := xX11_squareAt hk e_this c1
    refine r_astore (lv' := [(4, .ref (kad k 5 i5)), (0, .ref (kad k 11 0)), (1, .int a1), (2, .int a2), (3, .int a3)]) hx (Nat.le_of_ble_eq_true rfl) rfl dX11_bring_5 ?_
    refine r_aloadn hx 1 rfl rfl dX11_bring_7 ?_
    refine r_iloadn hx 3 rfl rfl dX11_bring_8 ?_
    obtain ⟨r15, μ14, c13, hf⟩ := f_bd2 hf
    refine r_callV hx (As := [.int a2]) (rest := []) (st1 := [rp k 5 r15]) (c := 11) (i := 0) (TT := T11) (N := 12) MK_X11_squareAt rfl wi_X11_squareAt we_X11_squareAt wm_X11_98 ⟨Nat.le_refl _, Nat.le_refl _⟩ (cX11_squareAt hk e_this c13) e_this (Nat.le_of_ble_eq_true rfl) rfl rfl (Nat.le_of_ble_eq_true rfl) rfl dX11_bring_9 (fun hb16 => ?_)
    cases r15 with
    | none =>
      have hf := f_on hf
      refine r_astoreN (lv' := [(5, .null), (4, .ref (kad k 5 i5)), (0, .ref (kad k 11 0)), (1, .int a1), (2, .int a2), (3, .int a3)]) hx (Nat.le_of_ble_eq_true rfl) rfl dX11_bring_12 ?_
      refine r_aload hx 1 rfl dX11_bring_14 ?_
      refine r_nullS hx dX11_bring_16 ?_
      refine r_aloadN hx 0 rfl dX11_bring_19 ?_
      refine r_nullN (tgt := 34) hx rfl dX11_bring_21 ?_
      refine r_iconst hx ci_m1 dX11_bring_34 ?_
      exact r_iret hx hf dX11_bring_35
    | some i17 =>
      have hf := f_os hf
      have e18 : kex k 5 i17 := xX11_squareAt hk e_this c13
      refine r_astore (lv' := [(5, .ref (kad k 5 i17)), (4, .ref (kad k 5 i5)), (0, .ref (kad k 11 0)), (1, .int a1), (2, .int a2), (3, .int a3)]) hx (Nat.le_of_ble_eq_true rfl) rfl dX11_bring_12 ?_
      refine r_aload hx 1 rfl dX11_bring_14 ?_
      refine r_nullS hx dX11_bring_16 ?_
      refine r_aload hx 0 rfl dX11_bring_19 ?_
      refine r_nullS hx dX11_bring_21 ?_
      refine r_iloadn hx 3 rfl rfl dX11_bring_24 ?_
      refine r_iloadn hx 4 rfl rfl dX11_bring_25 ?_
      refine r_iceq (tgt := 34) hx rfl dX11_bring_26 (fun q19 => ?_) (fun q19 => ?_)
      · have hf := (f_ite hf).1 q19
        refine r_iconst hx ci_m1 dX11_bring_34 ?_
        exact r_iret hx hf dX11_bring_35
      · have hf := (f_ite hf).2 q19
        refine r_iloadn hx 5 rfl rfl dX11_bring_29 ?_
        refine r_iconst hx ci_m1 dX11_bring_30 ?_
        refine r_icge (tgt := 36) hx rfl dX11_bring_31 (fun q20 => ?_) (fun q20 => ?_)
        · have hf := (f_ite hf).1 q20
          refine r_aloadn hx 2 rfl rfl dX11_bring_36 ?_
          refine r_aload hx 1 rfl dX11_bring_37 ?_
          refine r_aload hx 0 rfl dX11_bring_39 ?_
          refine r_iloadn hx 5 rfl rfl dX11_bring_41 ?_
          obtain ⟨r23, μ22, c21, hf⟩ := f_bd2 hf
          refine r_callV hx (As := [.ref (kad k 5 i5), .ref (kad k 5 i17), .int a3]) (rest := []) (st1 := [.int r23]) (c := 11) (i := 0) (TT := T11) (N := 12) MK_X11_figuresTo rfl wi_X11_figuresTo we_X11_figuresTo wm_X11_196 ⟨Nat.le_refl _, Nat.le_refl _⟩ (cX11_figuresTo hk e_this e6 e18 e_S c21) e_this (Nat.le_of_ble_eq_true rfl) rfl rfl (Nat.le_of_ble_eq_true rfl) rfl dX11_bring_42 (fun hb24 => ?_)
          exact r_iret hx hf dX11_bring_45
        · have hf := (f_ite hf).2 q20
          refine r_iconst hx ci_m1 dX11_bring_34 ?_
          exact r_iret hx hf dX11_bring_35
theorem dX11_reach_0 : decode bX11_reach 0 = .ok (.aload_n 0, 1) := by decide +kernel
theorem dX11_reach_1 : decode bX11_reach 1 = .ok (.iload_n 1, 1) := by decide +kernel
theorem dX11_reach_2 : decode bX11_reach 2 = .ok (.invokevirtual 98, 3) := by decide +kernel
theorem dX11_reach_5 : decode bX11_reach 5 = .ok (.astore_n 2, 1) := by decide +kernel
theorem dX11_reach_6 : decode bX11_reach 6 = .ok (.aload_n 2, 1) := by decide +kernel
theorem dX11_reach_7 : decode bX11_reach 7 = .ok (.ifnonnull 7, 3) := by decide +kernel
theorem dX11_reach_10 : decode bX11_reach 10 = .ok (.iconst (-1), 1) := by decide +kernel
theorem dX11_reach_11 : decode bX11_reach 11 = .ok (.goto 11, 3) := by decide +kernel
theorem dX11_reach_14 : decode bX11_reach 14 = .ok (.aload_n 0, 1) := by decide +kernel
theorem dX11_reach_15 : decode bX11_reach 15 = .ok (.aload_n 2, 1) := by decide +kernel
theorem dX11_reach_16 : decode bX11_reach 16 = .ok (.invokevirtual 200, 3) := by decide +kernel
theorem dX11_reach_19 : decode bX11_reach 19 = .ok (.getfield 204, 3) := by decide +kernel
theorem dX11_reach_22 : decode bX11_reach 22 = .ok (.ireturn, 1) := by decide +kernel
set_option maxRecDepth 20000 in
set_option maxHeartbeats 4000000 in
theorem cX11_reach {l : Launch} {k : Kx} {F : Nat} {a1 : Int32} {μ μ' : Mm} {r : Int32} (hk : kok k) (e_this : kex k 11 0) (e_S : kex k 4 0) (hf : fX11_reach F a1 μ = some (r, μ')) : MM l k 5 yX11_reach bX11_reach 3 (some .int) [.ref (kad k 11 0), .int a1] μ (some (.int r)) μ' := by
  refine MM.of (lv := [(0, .ref (kad k 11 0)), (1, .int a1)]) (plainFor_of_name (by decide)) hk (Nat.le_of_ble_eq_true rfl) rfl (fun z hl hx => ?_)
  subst hl
  have hx : Ok z k bX11_reach 3 "RopeDance" (some .int) 5 (0, 0) := hx
  unfold fX11_reach at hf
  refine r_aloadn hx 0 rfl rfl dX11_reach_0 ?_
  refine r_iloadn hx 1 rfl rfl dX11_reach_1 ?_
  obtain ⟨r3, μ2, c1, hf⟩ := f_bd2 hf
  refine r_callV hx (As := [.int a1]) (rest := []) (st1 := [rp k 5 r3]) (c := 11) (i := 0) (TT := T11) (N := 12) MK_X11_squareAt rfl wi_X11_squareAt we_X11_squareAt wm_X11_98 ⟨Nat.le_refl _, Nat.le_refl _⟩ (cX11_squareAt hk e_this c1) e_this (Nat.le_of_ble_eq_true rfl) rfl rfl (Nat.le_of_ble_eq_true rfl) rfl dX11_reach_2 (fun hb4 => ?_)
  cases r3 with
  | none =>
    have hf := f_on hf
    refine r_astorenN (lv' := [(2, .null), (0, .ref (kad k 11 0)), (1, .int a1)]) hx rfl (Nat.le_of_ble_eq_true rfl) rfl dX11_reach_5 ?_
    refine r_aloadnN hx 0 rfl rfl dX11_reach_6 ?_
    refine r_nonnullN hx dX11_reach_7 ?_
    refine r_iconst hx ci_m1 dX11_reach_10 ?_
    refine r_goto (tgt := 22) hx rfl dX11_reach_11 ?_
    exact r_iret hx hf dX11_reach_22
  | some i5 =>
    have hf := f_os hf
    have e6 : kex k 5 i5 := xX11_squareAt hk e_this c1
    refine r_astoren (lv' := [(2, .ref (kad k 5 i5)), (0, .ref (kad k 11 0)), (1, .int a1)]) hx rfl (Nat.le_of_ble_eq_true rfl) rfl dX11_reach_5 ?_
    refine r_aloadn hx 0 rfl rfl dX11_reach_6 ?_
    refine r_nonnullS (tgt := 14) hx rfl dX11_reach_7 ?_
    refine r_aloadn hx 1 rfl rfl dX11_reach_14 ?_
    refine r_aloadn hx 0 rfl rfl dX11_reach_15 ?_
    obtain ⟨μ8, c7, hf⟩ := f_bd1 hf
    refine r_callV hx (As := [.ref (kad k 5 i5)]) (rest := []) (st1 := [.ref (kad k 4 0)]) (c := 11) (i := 0) (TT := T11) (N := 12) MK_X11_searchFrom rfl wi_X11_searchFrom we_X11_searchFrom wm_X11_200 ⟨Nat.le_refl _, Nat.le_refl _⟩ (cX11_searchFrom hk e_this e6 e_S c7) e_this (Nat.le_of_ble_eq_true rfl) rfl rfl (Nat.le_of_ble_eq_true rfl) rfl dX11_reach_16 (fun hb9 => ?_)
    refine r_getI hx FK4_0 e_S wf_X11_204 dX11_reach_19 ?_
    exact r_iret hx hf dX11_reach_22
theorem dX11_alike_0 : decode bX11_alike 0 = .ok (.aload_n 0, 1) := by decide +kernel
theorem dX11_alike_1 : decode bX11_alike 1 = .ok (.iload_n 1, 1) := by decide +kernel
theorem dX11_alike_2 : decode bX11_alike 2 = .ok (.invokevirtual 98, 3) := by decide +kernel
theorem dX11_alike_5 : decode bX11_alike 5 = .ok (.astore_n 3, 1) := by decide +kernel
theorem dX11_alike_6 : decode bX11_alike 6 = .ok (.aload_n 0, 1) := by decide +kernel
theorem dX11_alike_7 : decode bX11_alike 7 = .ok (.iload_n 2, 1) := by decide +kernel
theorem dX11_alike_8 : decode bX11_alike 8 = .ok (.invokevirtual 98, 3) := by decide +kernel
theorem dX11_alike_11 : decode bX11_alike 11 = .ok (.astore 4, 2) := by decide +kernel
theorem dX11_alike_13 : decode bX11_alike 13 = .ok (.aload_n 3, 1) := by decide +kernel
theorem dX11_alike_14 : decode bX11_alike 14 = .ok (.ifnull 8, 3) := by decide +kernel
theorem dX11_alike_17 : decode bX11_alike 17 = .ok (.aload 4, 2) := by decide +kernel
theorem dX11_alike_19 : decode bX11_alike 19 = .ok (.ifnonnull 5, 3) := by decide +kernel
theorem dX11_alike_22 : decode bX11_alike 22 = .ok (.iconst (-1), 1) := by decide +kernel
theorem dX11_alike_23 : decode bX11_alike 23 = .ok (.ireturn, 1) := by decide +kernel
theorem dX11_alike_24 : decode bX11_alike 24 = .ok (.aload_n 3, 1) := by decide +kernel
theorem dX11_alike_25 : decode bX11_alike 25 = .ok (.invokevirtual 209, 3) := by decide +kernel
theorem dX11_alike_28 : decode bX11_alike 28 = .ok (.istore 5, 2) := by decide +kernel
theorem dX11_alike_30 : decode bX11_alike 30 = .ok (.aload_n 3, 1) := by decide +kernel
theorem dX11_alike_31 : decode bX11_alike 31 = .ok (.invokevirtual 212, 3) := by decide +kernel
theorem dX11_alike_34 : decode bX11_alike 34 = .ok (.istore 6, 2) := by decide +kernel
theorem dX11_alike_36 : decode bX11_alike 36 = .ok (.aload 4, 2) := by decide +kernel
theorem dX11_alike_38 : decode bX11_alike 38 = .ok (.invokevirtual 212, 3) := by decide +kernel
theorem dX11_alike_41 : decode bX11_alike 41 = .ok (.istore 7, 2) := by decide +kernel
theorem dX11_alike_43 : decode bX11_alike 43 = .ok (.iload 5, 2) := by decide +kernel
theorem dX11_alike_45 : decode bX11_alike 45 = .ok (.aload 4, 2) := by decide +kernel
theorem dX11_alike_47 : decode bX11_alike 47 = .ok (.invokevirtual 209, 3) := by decide +kernel
theorem dX11_alike_50 : decode bX11_alike 50 = .ok (.if_icmp .eq 5, 3) := by decide +kernel
theorem dX11_alike_53 : decode bX11_alike 53 = .ok (.iconst 0, 1) := by decide +kernel
theorem dX11_alike_54 : decode bX11_alike 54 = .ok (.ireturn, 1) := by decide +kernel
theorem dX11_alike_55 : decode bX11_alike 55 = .ok (.iload 6, 2) := by decide +kernel
theorem dX11_alike_57 : decode bX11_alike 57 = .ok (.iload 7, 2) := by decide +kernel
theorem dX11_alike_59 : decode bX11_alike 59 = .ok (.if_icmp .eq 21, 3) := by decide +kernel
theorem dX11_alike_62 : decode bX11_alike 62 = .ok (.iload 5, 2) := by decide +kernel
theorem dX11_alike_64 : decode bX11_alike 64 = .ok (.ifCond .le 20, 3) := by decide +kernel
theorem dX11_alike_67 : decode bX11_alike 67 = .ok (.iload 6, 2) := by decide +kernel
theorem dX11_alike_69 : decode bX11_alike 69 = .ok (.iload 7, 2) := by decide +kernel
theorem dX11_alike_71 : decode bX11_alike 71 = .ok (.imul, 1) := by decide +kernel
theorem dX11_alike_72 : decode bX11_alike 72 = .ok (.iconst 1, 1) := by decide +kernel
theorem dX11_alike_73 : decode bX11_alike 73 = .ok (.isub, 1) := by decide +kernel
theorem dX11_alike_74 : decode bX11_alike 74 = .ok (.iload 5, 2) := by decide +kernel
theorem dX11_alike_76 : decode bX11_alike 76 = .ok (.irem, 1) := by decide +kernel
theorem dX11_alike_77 : decode bX11_alike 77 = .ok (.ifCond .ne 7, 3) := by decide +kernel
theorem dX11_alike_80 : decode bX11_alike 80 = .ok (.iconst 1, 1) := by decide +kernel
theorem dX11_alike_81 : decode bX11_alike 81 = .ok (.goto 4, 3) := by decide +kernel
theorem dX11_alike_84 : decode bX11_alike 84 = .ok (.iconst 0, 1) := by decide +kernel
theorem dX11_alike_85 : decode bX11_alike 85 = .ok (.ireturn, 1) := by decide +kernel
set_option maxRecDepth 20000 in
set_option maxHeartbeats 4000000 in
theorem cX11_alike {l : Launch} {k : Kx} {F : Nat} {a1 : Int32} {a2 : Int32} {μ μ' : Mm} {r : Int32} (hk : kok k) (e_this : kex k 11 0) (hf : fX11_alike F a1 a2 μ = some (r, μ')) : MM l k 2 yX11_alike bX11_alike 8 (some .int) [.ref (kad k 11 0), .int a1, .int a2] μ (some (.int r)) μ' := by
  refine MM.of (lv := [(0, .ref (kad k 11 0)), (1, .int a1), (2, .int a2)]) (plainFor_of_name (by decide)) hk (Nat.le_of_ble_eq_true rfl) rfl (fun z hl hx => ?_)
  subst hl
  have hx : Ok z k bX11_alike 8 "RopeDance" (some .int) 2 (0, 0) := hx
  have L80 : ∀ (μ : Mm), fX11_alike_L80 F  μ = some (r, μ') → Gw z k 8 (k, (0, 0), (some .int), (some (.int r)), μ') (0, 0) 80 μ [] [] := by
    intro  μ hf
    unfold fX11_alike_L80 at hf
    refine r_iconst hx ci_1 dX11_alike_80 ?_
    refine r_goto (tgt := 85) hx rfl dX11_alike_81 ?_
    exact r_iret hx hf dX11_alike_85
  unfold fX11_alike at hf
  refine r_aloadn hx 0 rfl rfl dX11_alike_0 ?_
  refine r_iloadn hx 1 rfl rfl dX11_alike_1 ?_
  obtain ⟨r3, μ2, c1, hf⟩ := f_bd2 hf
  refine r_callV hx (As := [.int a1]) (rest := []) (st1 := [rp k 5 r3]) (c := 11) (i := 0) (TT := T11) (N := 12) MK_X11_squareAt rfl wi_X11_squareAt we_X11_squareAt wm_X11_98 ⟨Nat.le_refl _, Nat.le_refl _⟩ (cX11_squareAt hk e_this c1) e_this (Nat.le_of_ble_eq_true rfl) rfl rfl (Nat.le_of_ble_eq_true rfl) rfl dX11_alike_2 (fun hb4 => ?_)
  cases r3 with
  | none =>
    have hf := f_on hf
    refine r_astorenN (lv' := [(3, .null), (0, .ref (kad k 11 0)), (1, .int a1), (2, .int a2)]) hx rfl (Nat.le_of_ble_eq_true rfl) rfl dX11_alike_5 ?_
    refine r_aloadn hx 1 rfl rfl dX11_alike_6 ?_
    refine r_iloadn hx 3 rfl rfl dX11_alike_7 ?_
    obtain ⟨r9, μ8, c7, hf⟩ := f_bd2 hf
    refine r_callV hx (As := [.int a2]) (rest := []) (st1 := [rp k 5 r9]) (c := 11) (i := 0) (TT := T11) (N := 12) MK_X11_squareAt rfl wi_X11_squareAt we_X11_squareAt wm_X11_98 ⟨Nat.le_refl _, Nat.le_refl _⟩ (cX11_squareAt hk e_this c7) e_this (Nat.le_of_ble_eq_true rfl) rfl rfl (Nat.le_of_ble_eq_true rfl) rfl dX11_alike_8 (fun hb10 => ?_)
    cases r9 with
    | none =>
      have hf := f_on hf
      refine r_astoreN (lv' := [(4, .null), (3, .null), (0, .ref (kad k 11 0)), (1, .int a1), (2, .int a2)]) hx (Nat.le_of_ble_eq_true rfl) rfl dX11_alike_11 ?_
      refine r_aloadnN hx 1 rfl rfl dX11_alike_13 ?_
      refine r_nullN (tgt := 22) hx rfl dX11_alike_14 ?_
      refine r_iconst hx ci_m1 dX11_alike_22 ?_
      exact r_iret hx hf dX11_alike_23
    | some i11 =>
      have hf := f_os hf
      have e12 : kex k 5 i11 := xX11_squareAt hk e_this c7
      refine r_astore (lv' := [(4, .ref (kad k 5 i11)), (3, .null), (0, .ref (kad k 11 0)), (1, .int a1), (2, .int a2)]) hx (Nat.le_of_ble_eq_true rfl) rfl dX11_alike_11 ?_
      refine r_aloadnN hx 1 rfl rfl dX11_alike_13 ?_
      refine r_nullN (tgt := 22) hx rfl dX11_alike_14 ?_
      refine r_iconst hx ci_m1 dX11_alike_22 ?_
      exact r_iret hx hf dX11_alike_23
  | some i5 =>
    have hf := f_os hf
    have e6 : kex k 5 i5 := xX11_squareAt hk e_this c1
    refine r_astoren (lv' := [(3, .ref (kad k 5 i5)), (0, .ref (kad k 11 0)), (1, .int a1), (2, .int a2)]) hx rfl (Nat.le_of_ble_eq_true rfl) rfl dX11_alike_5 ?_
    refine r_aloadn hx 1 rfl rfl dX11_alike_6 ?_
    refine r_iloadn hx 3 rfl rfl dX11_alike_7 ?_
    obtain ⟨r15, μ14, c13, hf⟩ := f_bd2 hf
    refine r_callV hx (As := [.int a2]) (rest := []) (st1 := [rp k 5 r15]) (c := 11) (i := 0) (TT := T11) (N := 12) MK_X11_squareAt rfl wi_X11_squareAt we_X11_squareAt wm_X11_98 ⟨Nat.le_refl _, Nat.le_refl _⟩ (cX11_squareAt hk e_this c13) e_this (Nat.le_of_ble_eq_true rfl) rfl rfl (Nat.le_of_ble_eq_true rfl) rfl dX11_alike_8 (fun hb16 => ?_)
    cases r15 with
    | none =>
      have hf := f_on hf
      refine r_astoreN (lv' := [(4, .null), (3, .ref (kad k 5 i5)), (0, .ref (kad k 11 0)), (1, .int a1), (2, .int a2)]) hx (Nat.le_of_ble_eq_true rfl) rfl dX11_alike_11 ?_
      refine r_aloadn hx 1 rfl rfl dX11_alike_13 ?_
      refine r_nullS hx dX11_alike_14 ?_
      refine r_aloadN hx 0 rfl dX11_alike_17 ?_
      refine r_nonnullN hx dX11_alike_19 ?_
      refine r_iconst hx ci_m1 dX11_alike_22 ?_
      exact r_iret hx hf dX11_alike_23
    | some i17 =>
      have hf := f_os hf
      have e18 : kex k 5 i17 := xX11_squareAt hk e_this c13
      refine r_astore (lv' := [(4, .ref (kad k 5 i17)), (3, .ref (kad k 5 i5)), (0, .ref (kad k 11 0)), (1, .int a1), (2, .int a2)]) hx (Nat.le_of_ble_eq_true rfl) rfl dX11_alike_11 ?_
      refine r_aloadn hx 1 rfl rfl dX11_alike_13 ?_
      refine r_nullS hx dX11_alike_14 ?_
      refine r_aload hx 0 rfl dX11_alike_17 ?_
      refine r_nonnullS (tgt := 24) hx rfl dX11_alike_19 ?_
      refine r_aloadn hx 1 rfl rfl dX11_alike_24 ?_
      obtain ⟨r21, μ20, c19, hf⟩ := f_bd2 hf
      refine r_callV hx (As := []) (rest := []) (st1 := [.int r21]) (c := 5) (i := i5) (TT := T5) (N := 4) MK_X5_closedP rfl wi_X5_closedP we_X5_closedP wm_X11_209 ⟨Nat.le_refl _, Nat.le_refl _⟩ (cX5_closedP hk e6 c19) e6 (Nat.le_of_ble_eq_true rfl) rfl rfl (Nat.le_of_ble_eq_true rfl) rfl dX11_alike_25 (fun hb22 => ?_)
      refine r_istore (lv' := [(5, .int r21), (4, .ref (kad k 5 i17)), (3, .ref (kad k 5 i5)), (0, .ref (kad k 11 0)), (1, .int a1), (2, .int a2)]) hx (Nat.le_of_ble_eq_true rfl) rfl dX11_alike_28 ?_
      refine r_aloadn hx 2 rfl rfl dX11_alike_30 ?_
      obtain ⟨r25, μ24, c23, hf⟩ := f_bd2 hf
      refine r_callV hx (As := []) (rest := []) (st1 := [.int r25]) (c := 5) (i := i5) (TT := T5) (N := 4) MK_X5_closedQ rfl wi_X5_closedQ we_X5_closedQ wm_X11_212 ⟨Nat.le_refl _, Nat.le_refl _⟩ (cX5_closedQ hk e6 c23) e6 (Nat.le_of_ble_eq_true rfl) rfl rfl (Nat.le_of_ble_eq_true rfl) rfl dX11_alike_31 (fun hb26 => ?_)
      refine r_istore (lv' := [(6, .int r25), (5, .int r21), (4, .ref (kad k 5 i17)), (3, .ref (kad k 5 i5)), (0, .ref (kad k 11 0)), (1, .int a1), (2, .int a2)]) hx (Nat.le_of_ble_eq_true rfl) rfl dX11_alike_34 ?_
      refine r_aload hx 2 rfl dX11_alike_36 ?_
      obtain ⟨r29, μ28, c27, hf⟩ := f_bd2 hf
      refine r_callV hx (As := []) (rest := []) (st1 := [.int r29]) (c := 5) (i := i17) (TT := T5) (N := 4) MK_X5_closedQ rfl wi_X5_closedQ we_X5_closedQ wm_X11_212 ⟨Nat.le_refl _, Nat.le_refl _⟩ (cX5_closedQ hk e18 c27) e18 (Nat.le_of_ble_eq_true rfl) rfl rfl (Nat.le_of_ble_eq_true rfl) rfl dX11_alike_38 (fun hb30 => ?_)
      refine r_istore (lv' := [(7, .int r29), (6, .int r25), (5, .int r21), (4, .ref (kad k 5 i17)), (3, .ref (kad k 5 i5)), (0, .ref (kad k 11 0)), (1, .int a1), (2, .int a2)]) hx (Nat.le_of_ble_eq_true rfl) rfl dX11_alike_41 ?_
      refine r_iload hx 2 rfl dX11_alike_43 ?_
      refine r_aload hx 3 rfl dX11_alike_45 ?_
      obtain ⟨r33, μ32, c31, hf⟩ := f_bd2 hf
      refine r_callV hx (As := []) (rest := [.int r21]) (st1 := [.int r33, .int r21]) (c := 5) (i := i17) (TT := T5) (N := 4) MK_X5_closedP rfl wi_X5_closedP we_X5_closedP wm_X11_209 ⟨Nat.le_refl _, Nat.le_refl _⟩ (cX5_closedP hk e18 c31) e18 (Nat.le_of_ble_eq_true rfl) rfl rfl (Nat.le_of_ble_eq_true rfl) rfl dX11_alike_47 (fun hb34 => ?_)
      refine r_iceq (tgt := 55) hx rfl dX11_alike_50 (fun q35 => ?_) (fun q35 => ?_)
      · have hf := (f_ite hf).1 q35
        refine r_iload hx 1 rfl dX11_alike_55 ?_
        refine r_iload hx 0 rfl dX11_alike_57 ?_
        refine r_iceq (tgt := 80) hx rfl dX11_alike_59 (fun q36 => ?_) (fun q36 => ?_)
        · have hf := (f_ite hf).1 q36
          refine r_sub [] rfl ?_
          exact L80   μ32 hf
        · have hf := (f_ite hf).2 q36
          refine r_iload hx 2 rfl dX11_alike_62 ?_
          refine r_ifle (tgt := 84) hx rfl dX11_alike_64 (fun q37 => ?_) (fun q37 => ?_)
          · have hf := (f_ite hf).1 q37
            refine r_iconst hx ci_0 dX11_alike_84 ?_
            exact r_iret hx hf dX11_alike_85
          · have hf := (f_ite hf).2 q37
            refine r_iload hx 1 rfl dX11_alike_67 ?_
            refine r_iload hx 0 rfl dX11_alike_69 ?_
            refine r_imul hx dX11_alike_71 ?_
            refine r_iconst hx ci_1 dX11_alike_72 ?_
            refine r_isub hx dX11_alike_73 ?_
            refine r_iload hx 2 rfl dX11_alike_74 ?_
            obtain ⟨q38, hf⟩ := f_nz hf
            refine r_irem hx q38 dX11_alike_76 ?_
            refine r_ifne (tgt := 84) hx rfl dX11_alike_77 (fun q39 => ?_) (fun q39 => ?_)
            · have hf := (f_ite hf).2 q39
              refine r_iconst hx ci_0 dX11_alike_84 ?_
              exact r_iret hx hf dX11_alike_85
            · have hf := (f_ite hf).1 q39
              refine r_sub [] rfl ?_
              exact L80   μ32 hf
      · have hf := (f_ite hf).2 q35
        refine r_iconst hx ci_0 dX11_alike_53 ?_
        exact r_iret hx hf dX11_alike_54
theorem dX11_closed_0 : decode bX11_closed 0 = .ok (.aload_n 0, 1) := by decide +kernel
theorem dX11_closed_1 : decode bX11_closed 1 = .ok (.iload_n 1, 1) := by decide +kernel
theorem dX11_closed_2 : decode bX11_closed 2 = .ok (.invokevirtual 98, 3) := by decide +kernel
theorem dX11_closed_5 : decode bX11_closed 5 = .ok (.astore_n 3, 1) := by decide +kernel
theorem dX11_closed_6 : decode bX11_closed 6 = .ok (.aload_n 3, 1) := by decide +kernel
theorem dX11_closed_7 : decode bX11_closed 7 = .ok (.ifnonnull 5, 3) := by decide +kernel
theorem dX11_closed_10 : decode bX11_closed 10 = .ok (.iconst (-1), 1) := by decide +kernel
theorem dX11_closed_11 : decode bX11_closed 11 = .ok (.ireturn, 1) := by decide +kernel
theorem dX11_closed_12 : decode bX11_closed 12 = .ok (.iload_n 2, 1) := by decide +kernel
theorem dX11_closed_13 : decode bX11_closed 13 = .ok (.tableswitch 50 0 2 #[27, 32, 37], 27) := by decide +kernel
theorem dX11_closed_40 : decode bX11_closed 40 = .ok (.aload_n 3, 1) := by decide +kernel
theorem dX11_closed_41 : decode bX11_closed 41 = .ok (.invokevirtual 209, 3) := by decide +kernel
theorem dX11_closed_44 : decode bX11_closed 44 = .ok (.ireturn, 1) := by decide +kernel
theorem dX11_closed_45 : decode bX11_closed 45 = .ok (.aload_n 3, 1) := by decide +kernel
theorem dX11_closed_46 : decode bX11_closed 46 = .ok (.invokevirtual 212, 3) := by decide +kernel
theorem dX11_closed_49 : decode bX11_closed 49 = .ok (.ireturn, 1) := by decide +kernel
theorem dX11_closed_50 : decode bX11_closed 50 = .ok (.aload_n 3, 1) := by decide +kernel
theorem dX11_closed_51 : decode bX11_closed 51 = .ok (.invokevirtual 112, 3) := by decide +kernel
theorem dX11_closed_54 : decode bX11_closed 54 = .ok (.ifCond .ne 7, 3) := by decide +kernel
theorem dX11_closed_57 : decode bX11_closed 57 = .ok (.iconst 2, 1) := by decide +kernel
theorem dX11_closed_58 : decode bX11_closed 58 = .ok (.goto 4, 3) := by decide +kernel
theorem dX11_closed_61 : decode bX11_closed 61 = .ok (.iconst 1, 1) := by decide +kernel
theorem dX11_closed_62 : decode bX11_closed 62 = .ok (.ireturn, 1) := by decide +kernel
theorem dX11_closed_63 : decode bX11_closed 63 = .ok (.iconst (-1), 1) := by decide +kernel
theorem dX11_closed_64 : decode bX11_closed 64 = .ok (.ireturn, 1) := by decide +kernel
set_option maxRecDepth 20000 in
set_option maxHeartbeats 4000000 in
theorem cX11_closed {l : Launch} {k : Kx} {F : Nat} {a1 : Int32} {a2 : Int32} {μ μ' : Mm} {r : Int32} (hk : kok k) (e_this : kex k 11 0) (hf : fX11_closed F a1 a2 μ = some (r, μ')) : MM l k 2 yX11_closed bX11_closed 4 (some .int) [.ref (kad k 11 0), .int a1, .int a2] μ (some (.int r)) μ' := by
  refine MM.of (lv := [(0, .ref (kad k 11 0)), (1, .int a1), (2, .int a2)]) (plainFor_of_name (by decide)) hk (Nat.le_of_ble_eq_true rfl) rfl (fun z hl hx => ?_)
  subst hl
  have hx : Ok z k bX11_closed 4 "RopeDance" (some .int) 2 (0, 0) := hx
  unfold fX11_closed at hf
  refine r_aloadn hx 0 rfl rfl dX11_closed_0 ?_
  refine r_iloadn hx 1 rfl rfl dX11_closed_1 ?_
  obtain ⟨r3, μ2, c1, hf⟩ := f_bd2 hf
  refine r_callV hx (As := [.int a1]) (rest := []) (st1 := [rp k 5 r3]) (c := 11) (i := 0) (TT := T11) (N := 12) MK_X11_squareAt rfl wi_X11_squareAt we_X11_squareAt wm_X11_98 ⟨Nat.le_refl _, Nat.le_refl _⟩ (cX11_squareAt hk e_this c1) e_this (Nat.le_of_ble_eq_true rfl) rfl rfl (Nat.le_of_ble_eq_true rfl) rfl dX11_closed_2 (fun hb4 => ?_)
  cases r3 with
  | none =>
    have hf := f_on hf
    refine r_astorenN (lv' := [(3, .null), (0, .ref (kad k 11 0)), (1, .int a1), (2, .int a2)]) hx rfl (Nat.le_of_ble_eq_true rfl) rfl dX11_closed_5 ?_
    refine r_aloadnN hx 0 rfl rfl dX11_closed_6 ?_
    refine r_nonnullN hx dX11_closed_7 ?_
    refine r_iconst hx ci_m1 dX11_closed_10 ?_
    exact r_iret hx hf dX11_closed_11
  | some i5 =>
    have hf := f_os hf
    have e6 : kex k 5 i5 := xX11_squareAt hk e_this c1
    refine r_astoren (lv' := [(3, .ref (kad k 5 i5)), (0, .ref (kad k 11 0)), (1, .int a1), (2, .int a2)]) hx rfl (Nat.le_of_ble_eq_true rfl) rfl dX11_closed_5 ?_
    refine r_aloadn hx 0 rfl rfl dX11_closed_6 ?_
    refine r_nonnullS (tgt := 12) hx rfl dX11_closed_7 ?_
    refine r_iloadn hx 3 rfl rfl dX11_closed_12 ?_
    by_cases q7 : a2 = 0
    · have hf := (f_ite hf).1 q7
      refine r_tableIn (off := 27) (tgt := 40) hx (by rw [q7]; decide) (by rw [q7]; decide) (by rw [q7]; rfl) rfl dX11_closed_13 ?_
      refine r_aloadn hx 0 rfl rfl dX11_closed_40 ?_
      obtain ⟨r10, μ9, c8, hf⟩ := f_bd2 hf
      refine r_callV hx (As := []) (rest := []) (st1 := [.int r10]) (c := 5) (i := i5) (TT := T5) (N := 4) MK_X5_closedP rfl wi_X5_closedP we_X5_closedP wm_X11_209 ⟨Nat.le_refl _, Nat.le_refl _⟩ (cX5_closedP hk e6 c8) e6 (Nat.le_of_ble_eq_true rfl) rfl rfl (Nat.le_of_ble_eq_true rfl) rfl dX11_closed_41 (fun hb11 => ?_)
      exact r_iret hx hf dX11_closed_44
    · have hf := (f_ite hf).2 q7
      by_cases q12 : a2 = 1
      · have hf := (f_ite hf).1 q12
        refine r_tableIn (off := 32) (tgt := 45) hx (by rw [q12]; decide) (by rw [q12]; decide) (by rw [q12]; rfl) rfl dX11_closed_13 ?_
        refine r_aloadn hx 0 rfl rfl dX11_closed_45 ?_
        obtain ⟨r15, μ14, c13, hf⟩ := f_bd2 hf
        refine r_callV hx (As := []) (rest := []) (st1 := [.int r15]) (c := 5) (i := i5) (TT := T5) (N := 4) MK_X5_closedQ rfl wi_X5_closedQ we_X5_closedQ wm_X11_212 ⟨Nat.le_refl _, Nat.le_refl _⟩ (cX5_closedQ hk e6 c13) e6 (Nat.le_of_ble_eq_true rfl) rfl rfl (Nat.le_of_ble_eq_true rfl) rfl dX11_closed_46 (fun hb16 => ?_)
        exact r_iret hx hf dX11_closed_49
      · have hf := (f_ite hf).2 q12
        by_cases q17 : a2 = 2
        · have hf := (f_ite hf).1 q17
          refine r_tableIn (off := 37) (tgt := 50) hx (by rw [q17]; decide) (by rw [q17]; decide) (by rw [q17]; rfl) rfl dX11_closed_13 ?_
          refine r_aloadn hx 0 rfl rfl dX11_closed_50 ?_
          obtain ⟨r20, μ19, c18, hf⟩ := f_bd2 hf
          refine r_callV hx (As := []) (rest := []) (st1 := [.int r20]) (c := 5) (i := i5) (TT := T5) (N := 4) MK_X5_ends rfl wi_X5_ends we_X5_ends wm_X11_112 ⟨Nat.le_refl _, Nat.le_refl _⟩ (cX5_ends hk e6 c18) e6 (Nat.le_of_ble_eq_true rfl) rfl rfl (Nat.le_of_ble_eq_true rfl) rfl dX11_closed_51 (fun hb21 => ?_)
          refine r_ifne (tgt := 61) hx rfl dX11_closed_54 (fun q22 => ?_) (fun q22 => ?_)
          · have hf := (f_ite hf).2 q22
            refine r_iconst hx ci_1 dX11_closed_61 ?_
            exact r_iret hx hf dX11_closed_62
          · have hf := (f_ite hf).1 q22
            refine r_iconst hx ci_2 dX11_closed_57 ?_
            refine r_goto (tgt := 62) hx rfl dX11_closed_58 ?_
            exact r_iret hx hf dX11_closed_62
        · have hf := (f_ite hf).2 q17
          have tq7 := lv_neT (a := 0) q7 (by decide)
          have tq12 := lv_neT (a := 1) q12 (by decide)
          have tq17 := lv_neT (a := 2) q17 (by decide)
          refine r_tableOut (tgt := 63) hx (by omega) rfl dX11_closed_13 ?_
          refine r_iconst hx ci_m1 dX11_closed_63 ?_
          exact r_iret hx hf dX11_closed_64
theorem dX11_isDivisor_0 : decode bX11_isDivisor 0 = .ok (.iload_n 0, 1) := by decide +kernel
theorem dX11_isDivisor_1 : decode bX11_isDivisor 1 = .ok (.iconst 2, 1) := by decide +kernel
theorem dX11_isDivisor_2 : decode bX11_isDivisor 2 = .ok (.if_icmp .lt 13, 3) := by decide +kernel
theorem dX11_isDivisor_5 : decode bX11_isDivisor 5 = .ok (.iload_n 0, 1) := by decide +kernel
theorem dX11_isDivisor_6 : decode bX11_isDivisor 6 = .ok (.bipush 97, 2) := by decide +kernel
theorem dX11_isDivisor_8 : decode bX11_isDivisor 8 = .ok (.if_icmp .gt 7, 3) := by decide +kernel
theorem dX11_isDivisor_11 : decode bX11_isDivisor 11 = .ok (.iconst 1, 1) := by decide +kernel
theorem dX11_isDivisor_12 : decode bX11_isDivisor 12 = .ok (.goto 4, 3) := by decide +kernel
theorem dX11_isDivisor_15 : decode bX11_isDivisor 15 = .ok (.iconst 0, 1) := by decide +kernel
theorem dX11_isDivisor_16 : decode bX11_isDivisor 16 = .ok (.ireturn, 1) := by decide +kernel
set_option maxRecDepth 20000 in
set_option maxHeartbeats 4000000 in
theorem cX11_isDivisor {l : Launch} {k : Kx} {F : Nat} {a0 : Int32} {μ μ' : Mm} {r : Int32} (hk : kok k) (hf : fX11_isDivisor F a0 μ = some (r, μ')) : MM l k 0 yX11_isDivisor bX11_isDivisor 1 (some .boolean) [.int a0] μ (some (.int r)) μ' := by
  refine MM.of (lv := [(0, .int a0)]) (plainFor_of_name (by decide)) hk (Nat.le_of_ble_eq_true rfl) rfl (fun z hl hx => ?_)
  subst hl
  have hx : Ok z k bX11_isDivisor 1 "RopeDance" (some .boolean) 0 (0, 0) := hx
  unfold fX11_isDivisor at hf
  refine r_iloadn hx 0 rfl rfl dX11_isDivisor_0 ?_
  refine r_iconst hx ci_2 dX11_isDivisor_1 ?_
  refine r_iclt (tgt := 15) hx rfl dX11_isDivisor_2 (fun q1 => ?_) (fun q1 => ?_)
  · have hf := (f_ite hf).1 q1
    refine r_iconst hx ci_0 dX11_isDivisor_15 ?_
    exact r_zret hx hf rfl dX11_isDivisor_16
  · have hf := (f_ite hf).2 q1
    refine r_iloadn hx 0 rfl rfl dX11_isDivisor_5 ?_
    refine r_bipush hx cb_97 dX11_isDivisor_6 ?_
    refine r_icgt (tgt := 15) hx rfl dX11_isDivisor_8 (fun q2 => ?_) (fun q2 => ?_)
    · have hf := (f_ite hf).1 q2
      refine r_iconst hx ci_0 dX11_isDivisor_15 ?_
      exact r_zret hx hf rfl dX11_isDivisor_16
    · have hf := (f_ite hf).2 q2
      refine r_iconst hx ci_1 dX11_isDivisor_11 ?_
      refine r_goto (tgt := 16) hx rfl dX11_isDivisor_12 ?_
      exact r_zret hx hf rfl dX11_isDivisor_16
theorem dX11_colours_0 : decode bX11_colours 0 = .ok (.aload_n 0, 1) := by decide +kernel
theorem dX11_colours_1 : decode bX11_colours 1 = .ok (.iload_n 1, 1) := by decide +kernel
theorem dX11_colours_2 : decode bX11_colours 2 = .ok (.invokevirtual 98, 3) := by decide +kernel
theorem dX11_colours_5 : decode bX11_colours 5 = .ok (.astore_n 3, 1) := by decide +kernel
theorem dX11_colours_6 : decode bX11_colours 6 = .ok (.aload_n 3, 1) := by decide +kernel
theorem dX11_colours_7 : decode bX11_colours 7 = .ok (.ifnull 10, 3) := by decide +kernel
theorem dX11_colours_10 : decode bX11_colours 10 = .ok (.iload_n 2, 1) := by decide +kernel
theorem dX11_colours_11 : decode bX11_colours 11 = .ok (.invokestatic 215, 3) := by decide +kernel
theorem dX11_colours_14 : decode bX11_colours 14 = .ok (.ifCond .ne 5, 3) := by decide +kernel
theorem dX11_colours_17 : decode bX11_colours 17 = .ok (.iconst (-1), 1) := by decide +kernel
theorem dX11_colours_18 : decode bX11_colours 18 = .ok (.ireturn, 1) := by decide +kernel
theorem dX11_colours_19 : decode bX11_colours 19 = .ok (.iload_n 2, 1) := by decide +kernel
theorem dX11_colours_20 : decode bX11_colours 20 = .ok (.iload_n 2, 1) := by decide +kernel
theorem dX11_colours_21 : decode bX11_colours 21 = .ok (.aload_n 3, 1) := by decide +kernel
theorem dX11_colours_22 : decode bX11_colours 22 = .ok (.invokevirtual 209, 3) := by decide +kernel
theorem dX11_colours_25 : decode bX11_colours 25 = .ok (.invokestatic 218, 3) := by decide +kernel
theorem dX11_colours_28 : decode bX11_colours 28 = .ok (.imul, 1) := by decide +kernel
theorem dX11_colours_29 : decode bX11_colours 29 = .ok (.ireturn, 1) := by decide +kernel
set_option maxRecDepth 20000 in
set_option maxHeartbeats 4000000 in
theorem cX11_colours {l : Launch} {k : Kx} {F : Nat} {a1 : Int32} {a2 : Int32} {μ μ' : Mm} {r : Int32} (hk : kok k) (e_this : kex k 11 0) (hf : fX11_colours F a1 a2 μ = some (r, μ')) : MM l k 2 yX11_colours bX11_colours 4 (some .int) [.ref (kad k 11 0), .int a1, .int a2] μ (some (.int r)) μ' := by
  refine MM.of (lv := [(0, .ref (kad k 11 0)), (1, .int a1), (2, .int a2)]) (plainFor_of_name (by decide)) hk (Nat.le_of_ble_eq_true rfl) rfl (fun z hl hx => ?_)
  subst hl
  have hx : Ok z k bX11_colours 4 "RopeDance" (some .int) 2 (0, 0) := hx
  unfold fX11_colours at hf
  refine r_aloadn hx 0 rfl rfl dX11_colours_0 ?_
  refine r_iloadn hx 1 rfl rfl dX11_colours_1 ?_
  obtain ⟨r3, μ2, c1, hf⟩ := f_bd2 hf
  refine r_callV hx (As := [.int a1]) (rest := []) (st1 := [rp k 5 r3]) (c := 11) (i := 0) (TT := T11) (N := 12) MK_X11_squareAt rfl wi_X11_squareAt we_X11_squareAt wm_X11_98 ⟨Nat.le_refl _, Nat.le_refl _⟩ (cX11_squareAt hk e_this c1) e_this (Nat.le_of_ble_eq_true rfl) rfl rfl (Nat.le_of_ble_eq_true rfl) rfl dX11_colours_2 (fun hb4 => ?_)
  cases r3 with
  | none =>
    have hf := f_on hf
    refine r_astorenN (lv' := [(3, .null), (0, .ref (kad k 11 0)), (1, .int a1), (2, .int a2)]) hx rfl (Nat.le_of_ble_eq_true rfl) rfl dX11_colours_5 ?_
    refine r_aloadnN hx 0 rfl rfl dX11_colours_6 ?_
    refine r_nullN (tgt := 17) hx rfl dX11_colours_7 ?_
    refine r_iconst hx ci_m1 dX11_colours_17 ?_
    exact r_iret hx hf dX11_colours_18
  | some i5 =>
    have hf := f_os hf
    have e6 : kex k 5 i5 := xX11_squareAt hk e_this c1
    refine r_astoren (lv' := [(3, .ref (kad k 5 i5)), (0, .ref (kad k 11 0)), (1, .int a1), (2, .int a2)]) hx rfl (Nat.le_of_ble_eq_true rfl) rfl dX11_colours_5 ?_
    refine r_aloadn hx 0 rfl rfl dX11_colours_6 ?_
    refine r_nullS hx dX11_colours_7 ?_
    refine r_iloadn hx 3 rfl rfl dX11_colours_10 ?_
    obtain ⟨r9, μ8, c7, hf⟩ := f_bd2 hf
    refine r_callS hx (As := [.int a2]) (rest := []) (st1 := [.int r9]) MK_X11_isDivisor ws_X11_isDivisor wm_X11_215 ⟨Nat.le_refl _, Nat.le_refl _⟩ (cX11_isDivisor hk c7) (Nat.le_of_ble_eq_true rfl) rfl rfl (Nat.le_of_ble_eq_true rfl) rfl dX11_colours_11 (fun hb10 => ?_)
    refine r_ifne (tgt := 19) hx rfl dX11_colours_14 (fun q11 => ?_) (fun q11 => ?_)
    · have hf := (f_ite hf).2 q11
      refine r_iloadn hx 3 rfl rfl dX11_colours_19 ?_
      refine r_iloadn hx 3 rfl rfl dX11_colours_20 ?_
      refine r_aloadn hx 0 rfl rfl dX11_colours_21 ?_
      obtain ⟨r14, μ13, c12, hf⟩ := f_bd2 hf
      refine r_callV hx (As := []) (rest := [.int a2, .int a2]) (st1 := [.int r14, .int a2, .int a2]) (c := 5) (i := i5) (TT := T5) (N := 4) MK_X5_closedP rfl wi_X5_closedP we_X5_closedP wm_X11_209 ⟨Nat.le_refl _, Nat.le_refl _⟩ (cX5_closedP hk e6 c12) e6 (Nat.le_of_ble_eq_true rfl) rfl rfl (Nat.le_of_ble_eq_true rfl) rfl dX11_colours_22 (fun hb15 => ?_)
      obtain ⟨r18, μ17, c16, hf⟩ := f_bd2 hf
      refine r_callS hx (As := [.int a2, .int r14]) (rest := [.int a2]) (st1 := [.int r18, .int a2]) MK_X11_greatest ws_X11_greatest wm_X11_218 ⟨Nat.le_refl _, Nat.le_refl _⟩ (cX11_greatest hk c16) (Nat.le_of_ble_eq_true rfl) rfl rfl (Nat.le_of_ble_eq_true rfl) rfl dX11_colours_25 (fun hb19 => ?_)
      refine r_imul hx dX11_colours_28 ?_
      exact r_iret hx hf dX11_colours_29
    · have hf := (f_ite hf).1 q11
      refine r_iconst hx ci_m1 dX11_colours_17 ?_
      exact r_iret hx hf dX11_colours_18
theorem dX11_joined_0 : decode bX11_joined 0 = .ok (.aload_n 0, 1) := by decide +kernel
theorem dX11_joined_1 : decode bX11_joined 1 = .ok (.iload_n 1, 1) := by decide +kernel
theorem dX11_joined_2 : decode bX11_joined 2 = .ok (.invokevirtual 98, 3) := by decide +kernel
theorem dX11_joined_5 : decode bX11_joined 5 = .ok (.astore_n 3, 1) := by decide +kernel
theorem dX11_joined_6 : decode bX11_joined 6 = .ok (.aload_n 0, 1) := by decide +kernel
theorem dX11_joined_7 : decode bX11_joined 7 = .ok (.iload_n 2, 1) := by decide +kernel
theorem dX11_joined_8 : decode bX11_joined 8 = .ok (.invokevirtual 98, 3) := by decide +kernel
theorem dX11_joined_11 : decode bX11_joined 11 = .ok (.astore 4, 2) := by decide +kernel
theorem dX11_joined_13 : decode bX11_joined 13 = .ok (.aload_n 3, 1) := by decide +kernel
theorem dX11_joined_14 : decode bX11_joined 14 = .ok (.ifnull 8, 3) := by decide +kernel
theorem dX11_joined_17 : decode bX11_joined 17 = .ok (.aload 4, 2) := by decide +kernel
theorem dX11_joined_19 : decode bX11_joined 19 = .ok (.ifnonnull 7, 3) := by decide +kernel
theorem dX11_joined_22 : decode bX11_joined 22 = .ok (.iconst (-1), 1) := by decide +kernel
theorem dX11_joined_23 : decode bX11_joined 23 = .ok (.goto 27, 3) := by decide +kernel
theorem dX11_joined_26 : decode bX11_joined 26 = .ok (.aload_n 3, 1) := by decide +kernel
theorem dX11_joined_27 : decode bX11_joined 27 = .ok (.getfield 102, 3) := by decide +kernel
theorem dX11_joined_30 : decode bX11_joined 30 = .ok (.aload 4, 2) := by decide +kernel
theorem dX11_joined_32 : decode bX11_joined 32 = .ok (.getfield 105, 3) := by decide +kernel
theorem dX11_joined_35 : decode bX11_joined 35 = .ok (.imul, 1) := by decide +kernel
theorem dX11_joined_36 : decode bX11_joined 36 = .ok (.aload 4, 2) := by decide +kernel
theorem dX11_joined_38 : decode bX11_joined 38 = .ok (.getfield 102, 3) := by decide +kernel
theorem dX11_joined_41 : decode bX11_joined 41 = .ok (.aload_n 3, 1) := by decide +kernel
theorem dX11_joined_42 : decode bX11_joined 42 = .ok (.getfield 105, 3) := by decide +kernel
theorem dX11_joined_45 : decode bX11_joined 45 = .ok (.imul, 1) := by decide +kernel
theorem dX11_joined_46 : decode bX11_joined 46 = .ok (.iadd, 1) := by decide +kernel
theorem dX11_joined_47 : decode bX11_joined 47 = .ok (.invokestatic 221, 3) := by decide +kernel
theorem dX11_joined_50 : decode bX11_joined 50 = .ok (.ireturn, 1) := by decide +kernel
set_option maxRecDepth 20000 in
set_option maxHeartbeats 4000000 in
theorem cX11_joined {l : Launch} {k : Kx} {F : Nat} {a1 : Int32} {a2 : Int32} {μ μ' : Mm} {r : Int32} (hk : kok k) (e_this : kex k 11 0) (hf : fX11_joined F a1 a2 μ = some (r, μ')) : MM l k 1 yX11_joined bX11_joined 5 (some .int) [.ref (kad k 11 0), .int a1, .int a2] μ (some (.int r)) μ' := by
  refine MM.of (lv := [(0, .ref (kad k 11 0)), (1, .int a1), (2, .int a2)]) (plainFor_of_name (by decide)) hk (Nat.le_of_ble_eq_true rfl) rfl (fun z hl hx => ?_)
  subst hl
  have hx : Ok z k bX11_joined 5 "RopeDance" (some .int) 1 (0, 0) := hx
  have L22 : ∀ (μ : Mm), fX11_joined_L22 F  μ = some (r, μ') → Gw z k 5 (k, (0, 0), (some .int), (some (.int r)), μ') (0, 0) 22 μ [] [] := by
    intro  μ hf
    unfold fX11_joined_L22 at hf
    refine r_iconst hx ci_m1 dX11_joined_22 ?_
    refine r_goto (tgt := 50) hx rfl dX11_joined_23 ?_
    exact r_iret hx hf dX11_joined_50
  unfold fX11_joined at hf
  refine r_aloadn hx 0 rfl rfl dX11_joined_0 ?_
  refine r_iloadn hx 1 rfl rfl dX11_joined_1 ?_
  obtain ⟨r3, μ2, c1, hf⟩ := f_bd2 hf
  refine r_callV hx (As := [.int a1]) (rest := []) (st1 := [rp k 5 r3]) (c := 11) (i := 0) (TT := T11) (N := 12) MK_X11_squareAt rfl wi_X11_squareAt we_X11_squareAt wm_X11_98 ⟨Nat.le_refl _, Nat.le_refl _⟩ (cX11_squareAt hk e_this c1) e_this (Nat.le_of_ble_eq_true rfl) rfl rfl (Nat.le_of_ble_eq_true rfl) rfl dX11_joined_2 (fun hb4 => ?_)
  cases r3 with
  | none =>
    have hf := f_on hf
    refine r_astorenN (lv' := [(3, .null), (0, .ref (kad k 11 0)), (1, .int a1), (2, .int a2)]) hx rfl (Nat.le_of_ble_eq_true rfl) rfl dX11_joined_5 ?_
    refine r_aloadn hx 1 rfl rfl dX11_joined_6 ?_
    refine r_iloadn hx 3 rfl rfl dX11_joined_7 ?_
    obtain ⟨r9, μ8, c7, hf⟩ := f_bd2 hf
    refine r_callV hx (As := [.int a2]) (rest := []) (st1 := [rp k 5 r9]) (c := 11) (i := 0) (TT := T11) (N := 12) MK_X11_squareAt rfl wi_X11_squareAt we_X11_squareAt wm_X11_98 ⟨Nat.le_refl _, Nat.le_refl _⟩ (cX11_squareAt hk e_this c7) e_this (Nat.le_of_ble_eq_true rfl) rfl rfl (Nat.le_of_ble_eq_true rfl) rfl dX11_joined_8 (fun hb10 => ?_)
    cases r9 with
    | none =>
      have hf := f_on hf
      refine r_astoreN (lv' := [(4, .null), (3, .null), (0, .ref (kad k 11 0)), (1, .int a1), (2, .int a2)]) hx (Nat.le_of_ble_eq_true rfl) rfl dX11_joined_11 ?_
      refine r_aloadnN hx 1 rfl rfl dX11_joined_13 ?_
      refine r_nullN (tgt := 22) hx rfl dX11_joined_14 ?_
      refine r_sub [] rfl ?_
      exact L22   μ8 hf
    | some i11 =>
      have hf := f_os hf
      have e12 : kex k 5 i11 := xX11_squareAt hk e_this c7
      refine r_astore (lv' := [(4, .ref (kad k 5 i11)), (3, .null), (0, .ref (kad k 11 0)), (1, .int a1), (2, .int a2)]) hx (Nat.le_of_ble_eq_true rfl) rfl dX11_joined_11 ?_
      refine r_aloadnN hx 1 rfl rfl dX11_joined_13 ?_
      refine r_nullN (tgt := 22) hx rfl dX11_joined_14 ?_
      refine r_sub [] rfl ?_
      exact L22   μ8 hf
  | some i5 =>
    have hf := f_os hf
    have e6 : kex k 5 i5 := xX11_squareAt hk e_this c1
    refine r_astoren (lv' := [(3, .ref (kad k 5 i5)), (0, .ref (kad k 11 0)), (1, .int a1), (2, .int a2)]) hx rfl (Nat.le_of_ble_eq_true rfl) rfl dX11_joined_5 ?_
    refine r_aloadn hx 1 rfl rfl dX11_joined_6 ?_
    refine r_iloadn hx 3 rfl rfl dX11_joined_7 ?_
    obtain ⟨r15, μ14, c13, hf⟩ := f_bd2 hf
    refine r_callV hx (As := [.int a2]) (rest := []) (st1 := [rp k 5 r15]) (c := 11) (i := 0) (TT := T11) (N := 12) MK_X11_squareAt rfl wi_X11_squareAt we_X11_squareAt wm_X11_98 ⟨Nat.le_refl _, Nat.le_refl _⟩ (cX11_squareAt hk e_this c13) e_this (Nat.le_of_ble_eq_true rfl) rfl rfl (Nat.le_of_ble_eq_true rfl) rfl dX11_joined_8 (fun hb16 => ?_)
    cases r15 with
    | none =>
      have hf := f_on hf
      refine r_astoreN (lv' := [(4, .null), (3, .ref (kad k 5 i5)), (0, .ref (kad k 11 0)), (1, .int a1), (2, .int a2)]) hx (Nat.le_of_ble_eq_true rfl) rfl dX11_joined_11 ?_
      refine r_aloadn hx 1 rfl rfl dX11_joined_13 ?_
      refine r_nullS hx dX11_joined_14 ?_
      refine r_aloadN hx 0 rfl dX11_joined_17 ?_
      refine r_nonnullN hx dX11_joined_19 ?_
      refine r_sub [] rfl ?_
      exact L22   μ14 hf
    | some i17 =>
      have hf := f_os hf
      have e18 : kex k 5 i17 := xX11_squareAt hk e_this c13
      refine r_astore (lv' := [(4, .ref (kad k 5 i17)), (3, .ref (kad k 5 i5)), (0, .ref (kad k 11 0)), (1, .int a1), (2, .int a2)]) hx (Nat.le_of_ble_eq_true rfl) rfl dX11_joined_11 ?_
      refine r_aloadn hx 1 rfl rfl dX11_joined_13 ?_
      refine r_nullS hx dX11_joined_14 ?_
      refine r_aload hx 0 rfl dX11_joined_17 ?_
      refine r_nonnullS (tgt := 26) hx rfl dX11_joined_19 ?_
      refine r_aloadn hx 1 rfl rfl dX11_joined_26 ?_
      refine r_getI hx FK5_0 e6 wf_X11_102 dX11_joined_27 ?_
      refine r_aload hx 0 rfl dX11_joined_30 ?_
      refine r_getI hx FK5_1 e18 wf_X11_105 dX11_joined_32 ?_
      refine r_imul hx dX11_joined_35 ?_
      refine r_aload hx 0 rfl dX11_joined_36 ?_
      refine r_getI hx FK5_0 e18 wf_X11_102 dX11_joined_38 ?_
      refine r_aloadn hx 1 rfl rfl dX11_joined_41 ?_
      refine r_getI hx FK5_1 e6 wf_X11_105 dX11_joined_42 ?_
      refine r_imul hx dX11_joined_45 ?_
      refine r_iadd hx dX11_joined_46 ?_
      refine r_mabs hx wm_X11_221 xws_abs xwm xwk_abs ⟨Nat.le_refl _, Nat.le_refl _⟩ (Nat.le_of_ble_eq_true rfl) (Nat.le_of_ble_eq_true rfl) dX11_joined_47 ?_
      exact r_iret hx hf dX11_joined_50
theorem dX11_order_0 : decode bX11_order 0 = .ok (.aload_n 0, 1) := by decide +kernel
theorem dX11_order_1 : decode bX11_order 1 = .ok (.iload_n 1, 1) := by decide +kernel
theorem dX11_order_2 : decode bX11_order 2 = .ok (.invokevirtual 128, 3) := by decide +kernel
theorem dX11_order_5 : decode bX11_order 5 = .ok (.astore_n 2, 1) := by decide +kernel
theorem dX11_order_6 : decode bX11_order 6 = .ok (.aload_n 2, 1) := by decide +kernel
theorem dX11_order_7 : decode bX11_order 7 = .ok (.ifnonnull 5, 3) := by decide +kernel
theorem dX11_order_10 : decode bX11_order 10 = .ok (.iconst (-1), 1) := by decide +kernel
theorem dX11_order_11 : decode bX11_order 11 = .ok (.ireturn, 1) := by decide +kernel
theorem dX11_order_12 : decode bX11_order 12 = .ok (.aload_n 2, 1) := by decide +kernel
theorem dX11_order_13 : decode bX11_order 13 = .ok (.getfield 136, 3) := by decide +kernel
theorem dX11_order_16 : decode bX11_order 16 = .ok (.invokevirtual 226, 3) := by decide +kernel
theorem dX11_order_19 : decode bX11_order 19 = .ok (.ifCond .eq 5, 3) := by decide +kernel
theorem dX11_order_22 : decode bX11_order 22 = .ok (.iconst 1, 1) := by decide +kernel
theorem dX11_order_23 : decode bX11_order 23 = .ok (.ireturn, 1) := by decide +kernel
theorem dX11_order_24 : decode bX11_order 24 = .ok (.aload_n 2, 1) := by decide +kernel
theorem dX11_order_25 : decode bX11_order 25 = .ok (.getfield 136, 3) := by decide +kernel
theorem dX11_order_28 : decode bX11_order 28 = .ok (.invokevirtual 229, 3) := by decide +kernel
theorem dX11_order_31 : decode bX11_order 31 = .ok (.invokestatic 221, 3) := by decide +kernel
theorem dX11_order_34 : decode bX11_order 34 = .ok (.lookupswitch 30 #[(0, 26), (1, 28)], 26) := by decide +kernel
theorem dX11_order_60 : decode bX11_order 60 = .ok (.iconst 2, 1) := by decide +kernel
theorem dX11_order_61 : decode bX11_order 61 = .ok (.ireturn, 1) := by decide +kernel
theorem dX11_order_62 : decode bX11_order 62 = .ok (.iconst 3, 1) := by decide +kernel
theorem dX11_order_63 : decode bX11_order 63 = .ok (.ireturn, 1) := by decide +kernel
theorem dX11_order_64 : decode bX11_order 64 = .ok (.bipush (-2), 2) := by decide +kernel
theorem dX11_order_66 : decode bX11_order 66 = .ok (.ireturn, 1) := by decide +kernel
set_option maxRecDepth 20000 in
set_option maxHeartbeats 4000000 in
theorem cX11_order {l : Launch} {k : Kx} {F : Nat} {a1 : Int32} {μ μ' : Mm} {r : Int32} (hk : kok k) (e_this : kex k 11 0) (hf : fX11_order F a1 μ = some (r, μ')) : MM l k 1 yX11_order bX11_order 3 (some .int) [.ref (kad k 11 0), .int a1] μ (some (.int r)) μ' := by
  refine MM.of (lv := [(0, .ref (kad k 11 0)), (1, .int a1)]) (plainFor_of_name (by decide)) hk (Nat.le_of_ble_eq_true rfl) rfl (fun z hl hx => ?_)
  subst hl
  have hx : Ok z k bX11_order 3 "RopeDance" (some .int) 1 (0, 0) := hx
  unfold fX11_order at hf
  refine r_aloadn hx 0 rfl rfl dX11_order_0 ?_
  refine r_iloadn hx 1 rfl rfl dX11_order_1 ?_
  obtain ⟨r3, μ2, c1, hf⟩ := f_bd2 hf
  refine r_callV hx (As := [.int a1]) (rest := []) (st1 := [rp k 3 r3]) (c := 11) (i := 0) (TT := T11) (N := 12) MK_X11_figureAt rfl wi_X11_figureAt we_X11_figureAt wm_X11_128 ⟨Nat.le_refl _, Nat.le_refl _⟩ (cX11_figureAt hk e_this c1) e_this (Nat.le_of_ble_eq_true rfl) rfl rfl (Nat.le_of_ble_eq_true rfl) rfl dX11_order_2 (fun hb4 => ?_)
  cases r3 with
  | none =>
    have hf := f_on hf
    refine r_astorenN (lv' := [(2, .null), (0, .ref (kad k 11 0)), (1, .int a1)]) hx rfl (Nat.le_of_ble_eq_true rfl) rfl dX11_order_5 ?_
    refine r_aloadnN hx 0 rfl rfl dX11_order_6 ?_
    refine r_nonnullN hx dX11_order_7 ?_
    refine r_iconst hx ci_m1 dX11_order_10 ?_
    exact r_iret hx hf dX11_order_11
  | some i5 =>
    have hf := f_os hf
    have e6 : kex k 3 i5 := xX11_figureAt hk e_this c1
    refine r_astoren (lv' := [(2, .ref (kad k 3 i5)), (0, .ref (kad k 11 0)), (1, .int a1)]) hx rfl (Nat.le_of_ble_eq_true rfl) rfl dX11_order_5 ?_
    refine r_aloadn hx 0 rfl rfl dX11_order_6 ?_
    refine r_nonnullS (tgt := 12) hx rfl dX11_order_7 ?_
    refine r_aloadn hx 0 rfl rfl dX11_order_12 ?_
    refine r_getR hx (c' := 6) (i' := i5) FK3_1 e6 rfl wf_X11_136 dX11_order_13 (fun e7 => ?_)
    obtain ⟨r10, μ9, c8, hf⟩ := f_bd2 hf
    refine r_callV hx (As := []) (rest := []) (st1 := [.int r10]) (c := 6) (i := i5) (TT := T6) (N := 4) MK_X6_isNothing rfl wi_X6_isNothing we_X6_isNothing wm_X11_226 ⟨Nat.le_refl _, Nat.le_refl _⟩ (cX6_isNothing hk e7 c8) e7 (Nat.le_of_ble_eq_true rfl) rfl rfl (Nat.le_of_ble_eq_true rfl) rfl dX11_order_16 (fun hb11 => ?_)
    refine r_ifeq (tgt := 24) hx rfl dX11_order_19 (fun q12 => ?_) (fun q12 => ?_)
    · have hf := (f_ite hf).1 q12
      refine r_aloadn hx 0 rfl rfl dX11_order_24 ?_
      refine r_getR hx (c' := 6) (i' := i5) FK3_1 e6 rfl wf_X11_136 dX11_order_25 (fun e13 => ?_)
      obtain ⟨r16, μ15, c14, hf⟩ := f_bd2 hf
      refine r_callV hx (As := []) (rest := []) (st1 := [.int r16]) (c := 6) (i := i5) (TT := T6) (N := 4) MK_X6_trace rfl wi_X6_trace we_X6_trace wm_X11_229 ⟨Nat.le_refl _, Nat.le_refl _⟩ (cX6_trace hk e13 c14) e13 (Nat.le_of_ble_eq_true rfl) rfl rfl (Nat.le_of_ble_eq_true rfl) rfl dX11_order_28 (fun hb17 => ?_)
      refine r_mabs hx wm_X11_221 xws_abs xwm xwk_abs ⟨Nat.le_refl _, Nat.le_refl _⟩ (Nat.le_of_ble_eq_true rfl) (Nat.le_of_ble_eq_true rfl) dX11_order_31 ?_
      by_cases q18 : (ab r16) = 0
      · have hf := (f_ite hf).1 q18
        refine r_lookup (off := 26) (tgt := 60) hx rfl (by rw [q18]; rfl) rfl dX11_order_34 ?_
        refine r_iconst hx ci_2 dX11_order_60 ?_
        exact r_iret hx hf dX11_order_61
      · have hf := (f_ite hf).2 q18
        by_cases q19 : (ab r16) = 1
        · have hf := (f_ite hf).1 q19
          refine r_lookup (off := 28) (tgt := 62) hx rfl (by rw [q19]; rfl) rfl dX11_order_34 ?_
          refine r_iconst hx ci_3 dX11_order_62 ?_
          exact r_iret hx hf dX11_order_63
        · have hf := (f_ite hf).2 q19
          refine r_lookup (off := 30) (tgt := 64) hx rfl ((lv_osw q18 (by decide)).trans <| (lv_osw q19 (by decide)).trans <| rfl) rfl dX11_order_34 ?_
          refine r_bipush hx cb_m2 dX11_order_64 ?_
          exact r_iret hx hf dX11_order_66
    · have hf := (f_ite hf).2 q12
      refine r_iconst hx ci_1 dX11_order_22 ?_
      exact r_iret hx hf dX11_order_23
theorem dX11_roundOf_0 : decode bX11_roundOf 0 = .ok (.aload_n 0, 1) := by decide +kernel
theorem dX11_roundOf_1 : decode bX11_roundOf 1 = .ok (.getfield 66, 3) := by decide +kernel
theorem dX11_roundOf_4 : decode bX11_roundOf 4 = .ok (.invokevirtual 241, 3) := by decide +kernel
theorem dX11_roundOf_7 : decode bX11_roundOf 7 = .ok (.iconst 1, 1) := by decide +kernel
theorem dX11_roundOf_8 : decode bX11_roundOf 8 = .ok (.istore_n 3, 1) := by decide +kernel
theorem dX11_roundOf_9 : decode bX11_roundOf 9 = .ok (.iload_n 3, 1) := by decide +kernel
theorem dX11_roundOf_10 : decode bX11_roundOf 10 = .ok (.ldc_w 358, 3) := by decide +kernel
theorem dX11_roundOf_13 : decode bX11_roundOf 13 = .ok (.if_icmp .gt 46, 3) := by decide +kernel
theorem dX11_roundOf_16 : decode bX11_roundOf 16 = .ok (.aload_n 0, 1) := by decide +kernel
theorem dX11_roundOf_17 : decode bX11_roundOf 17 = .ok (.getfield 66, 3) := by decide +kernel
theorem dX11_roundOf_20 : decode bX11_roundOf 20 = .ok (.aload_n 0, 1) := by decide +kernel
theorem dX11_roundOf_21 : decode bX11_roundOf 21 = .ok (.getfield 66, 3) := by decide +kernel
theorem dX11_roundOf_24 : decode bX11_roundOf 24 = .ok (.aload_n 1, 1) := by decide +kernel
theorem dX11_roundOf_25 : decode bX11_roundOf 25 = .ok (.invokevirtual 244, 3) := by decide +kernel
theorem dX11_roundOf_28 : decode bX11_roundOf 28 = .ok (.aload_n 0, 1) := by decide +kernel
theorem dX11_roundOf_29 : decode bX11_roundOf 29 = .ok (.getfield 66, 3) := by decide +kernel
theorem dX11_roundOf_32 : decode bX11_roundOf 32 = .ok (.aload_n 0, 1) := by decide +kernel
theorem dX11_roundOf_33 : decode bX11_roundOf 33 = .ok (.getfield 66, 3) := by decide +kernel
theorem dX11_roundOf_36 : decode bX11_roundOf 36 = .ok (.iload_n 2, 1) := by decide +kernel
theorem dX11_roundOf_37 : decode bX11_roundOf 37 = .ok (.invokevirtual 237, 3) := by decide +kernel
theorem dX11_roundOf_40 : decode bX11_roundOf 40 = .ok (.aload_n 0, 1) := by decide +kernel
theorem dX11_roundOf_41 : decode bX11_roundOf 41 = .ok (.getfield 66, 3) := by decide +kernel
theorem dX11_roundOf_44 : decode bX11_roundOf 44 = .ok (.iload_n 2, 1) := by decide +kernel
theorem dX11_roundOf_45 : decode bX11_roundOf 45 = .ok (.invokevirtual 359, 3) := by decide +kernel
theorem dX11_roundOf_48 : decode bX11_roundOf 48 = .ok (.ifCond .eq 5, 3) := by decide +kernel
theorem dX11_roundOf_51 : decode bX11_roundOf 51 = .ok (.iload_n 3, 1) := by decide +kernel
theorem dX11_roundOf_52 : decode bX11_roundOf 52 = .ok (.ireturn, 1) := by decide +kernel
theorem dX11_roundOf_53 : decode bX11_roundOf 53 = .ok (.iinc 3 1, 3) := by decide +kernel
theorem dX11_roundOf_56 : decode bX11_roundOf 56 = .ok (.goto (-47), 3) := by decide +kernel
theorem dX11_roundOf_59 : decode bX11_roundOf 59 = .ok (.iconst (-1), 1) := by decide +kernel
theorem dX11_roundOf_60 : decode bX11_roundOf 60 = .ok (.ireturn, 1) := by decide +kernel
set_option maxRecDepth 20000 in
set_option maxHeartbeats 4000000 in
theorem cX11_roundOf {l : Launch} {k : Kx} {F : Nat} {a1 : Nat} {a2 : Int32} {μ μ' : Mm} {r : Int32} (hk : kok k) (e_this : kex k 11 0) (e_a1 : kex k 6 a1) (hf : fX11_roundOf F a1 a2 μ = some (r, μ')) : MM l k 2 yX11_roundOf bX11_roundOf 4 (some .int) [.ref (kad k 11 0), .ref (kad k 6 a1), .int a2] μ (some (.int r)) μ' := by
  refine MM.of (lv := [(0, .ref (kad k 11 0)), (1, .ref (kad k 6 a1)), (2, .int a2)]) (plainFor_of_name (by decide)) hk (Nat.le_of_ble_eq_true rfl) rfl (fun z hl hx => ?_)
  subst hl
  have hx : Ok z k bX11_roundOf 4 "RopeDance" (some .int) 2 (0, 0) := hx
  have L9 : ∀ (n : Nat) (v1 : Nat) (v2 : Int32) (v3 : Int32) (μ : Mm) (e_v0 : kex k 11 0) (e_v1 : kex k 6 v1), fX11_roundOf_L9 F n v1 v2 v3 μ = some (r, μ') → Gw z k 4 (k, (0, 0), (some .int), (some (.int r)), μ') (0, 0) 9 μ [(0, .ref (kad k 11 0)), (1, .ref (kad k 6 v1)), (2, .int v2), (3, .int v3)] [] := by
    intro  n
    induction n with
    | zero =>
      intro v1 v2 v3 μ e_v0 e_v1 hf
      exact f_no (show (none : Option (Int32 × Mm)) = _ from hf)
    | succ n ih =>
      intro v1 v2 v3 μ e_v0 e_v1 hf
      rw [fX11_roundOf_L9] at hf
      refine r_iloadn hx 3 rfl rfl dX11_roundOf_9 ?_
      refine r_ldcw hx wc_X11_358 dX11_roundOf_10 ?_
      refine r_icgt (tgt := 59) hx rfl dX11_roundOf_13 (fun q5 => ?_) (fun q5 => ?_)
      · have hf := (f_ite hf).1 q5
        refine r_iconst hx ci_m1 dX11_roundOf_59 ?_
        exact r_iret hx hf dX11_roundOf_60
      · have hf := (f_ite hf).2 q5
        refine r_aloadn hx 0 rfl rfl dX11_roundOf_16 ?_
        refine r_getR hx (c' := 6) (i' := 18) FK11_8 e_v0 rfl wf_X11_66 dX11_roundOf_17 (fun e6 => ?_)
        refine r_aloadn hx 0 rfl rfl dX11_roundOf_20 ?_
        refine r_getR hx (c' := 6) (i' := 18) FK11_8 e_v0 rfl wf_X11_66 dX11_roundOf_21 (fun e7 => ?_)
        refine r_aloadn hx 1 rfl rfl dX11_roundOf_24 ?_
        obtain ⟨μ9, c8, hf⟩ := f_bd1 hf
        refine r_callV hx (As := [.ref (kad k 6 18), .ref (kad k 6 v1)]) (rest := []) (st1 := []) (c := 6) (i := 18) (TT := T6) (N := 4) MK_X6_become rfl wi_X6_become we_X6_become wm_X11_244 ⟨Nat.le_refl _, Nat.le_refl _⟩ (cX6_become hk e6 e7 e_v1 c8) e6 (Nat.le_of_ble_eq_true rfl) rfl rfl (Nat.le_of_ble_eq_true rfl) rfl dX11_roundOf_25 (fun hb10 => ?_)
        refine r_aloadn hx 0 rfl rfl dX11_roundOf_28 ?_
        refine r_getR hx (c' := 6) (i' := 18) FK11_8 e_v0 rfl wf_X11_66 dX11_roundOf_29 (fun e11 => ?_)
        refine r_aloadn hx 0 rfl rfl dX11_roundOf_32 ?_
        refine r_getR hx (c' := 6) (i' := 18) FK11_8 e_v0 rfl wf_X11_66 dX11_roundOf_33 (fun e12 => ?_)
        refine r_iloadn hx 2 rfl rfl dX11_roundOf_36 ?_
        obtain ⟨μ14, c13, hf⟩ := f_bd1 hf
        refine r_callV hx (As := [.ref (kad k 6 18), .int v2]) (rest := []) (st1 := []) (c := 6) (i := 18) (TT := T6) (N := 4) MK_X6_restsOf rfl wi_X6_restsOf we_X6_restsOf wm_X11_237 ⟨Nat.le_refl _, Nat.le_refl _⟩ (cX6_restsOf hk e11 e12 c13) e11 (Nat.le_of_ble_eq_true rfl) rfl rfl (Nat.le_of_ble_eq_true rfl) rfl dX11_roundOf_37 (fun hb15 => ?_)
        refine r_aloadn hx 0 rfl rfl dX11_roundOf_40 ?_
        refine r_getR hx (c' := 6) (i' := 18) FK11_8 e_v0 rfl wf_X11_66 dX11_roundOf_41 (fun e16 => ?_)
        refine r_iloadn hx 2 rfl rfl dX11_roundOf_44 ?_
        obtain ⟨r19, μ18, c17, hf⟩ := f_bd2 hf
        refine r_callV hx (As := [.int v2]) (rest := []) (st1 := [.int r19]) (c := 6) (i := 18) (TT := T6) (N := 4) MK_X6_isNothingBy rfl wi_X6_isNothingBy we_X6_isNothingBy wm_X11_359 ⟨Nat.le_refl _, Nat.le_refl _⟩ (cX6_isNothingBy hk e16 c17) e16 (Nat.le_of_ble_eq_true rfl) rfl rfl (Nat.le_of_ble_eq_true rfl) rfl dX11_roundOf_45 (fun hb20 => ?_)
        refine r_ifeq (tgt := 53) hx rfl dX11_roundOf_48 (fun q21 => ?_) (fun q21 => ?_)
        · have hf := (f_ite hf).1 q21
          refine r_iinc (lv' := [(3, .int (v3 + 1)), (0, .ref (kad k 11 0)), (1, .ref (kad k 6 v1)), (2, .int v2)]) hx 3 rfl (congrArg (fun y => v3 + y) ci_1) (Nat.le_of_ble_eq_true rfl) rfl dX11_roundOf_53 ?_
          refine r_goto (tgt := 9) hx rfl dX11_roundOf_56 ?_
          refine r_sub [1, 2, 3, 0] rfl ?_
          exact ih v1 v2 (v3 + 1) μ18 e_v0 e_v1 hf
        · have hf := (f_ite hf).2 q21
          refine r_iloadn hx 3 rfl rfl dX11_roundOf_51 ?_
          exact r_iret hx hf dX11_roundOf_52
  unfold fX11_roundOf at hf
  refine r_aloadn hx 0 rfl rfl dX11_roundOf_0 ?_
  refine r_getR hx (c' := 6) (i' := 18) FK11_8 e_this rfl wf_X11_66 dX11_roundOf_1 (fun e1 => ?_)
  obtain ⟨μ3, c2, hf⟩ := f_bd1 hf
  refine r_callV hx (As := []) (rest := []) (st1 := []) (c := 6) (i := 18) (TT := T6) (N := 4) MK_X6_clear rfl wi_X6_clear we_X6_clear wm_X11_241 ⟨Nat.le_refl _, Nat.le_refl _⟩ (cX6_clear hk e1 c2) e1 (Nat.le_of_ble_eq_true rfl) rfl rfl (Nat.le_of_ble_eq_true rfl) rfl dX11_roundOf_4 (fun hb4 => ?_)
  refine r_iconst hx ci_1 dX11_roundOf_7 ?_
  refine r_istoren (lv' := [(3, .int 1), (0, .ref (kad k 11 0)), (1, .ref (kad k 6 a1)), (2, .int a2)]) hx rfl (Nat.le_of_ble_eq_true rfl) rfl dX11_roundOf_8 ?_
  refine r_sub [1, 2, 3, 0] rfl ?_
  exact L9 F a1 a2 1 μ3 e_this e_a1 hf
theorem dX11_round_0 : decode bX11_round 0 = .ok (.aload_n 0, 1) := by decide +kernel
theorem dX11_round_1 : decode bX11_round 1 = .ok (.iload_n 1, 1) := by decide +kernel
theorem dX11_round_2 : decode bX11_round 2 = .ok (.invokevirtual 128, 3) := by decide +kernel
theorem dX11_round_5 : decode bX11_round 5 = .ok (.astore_n 3, 1) := by decide +kernel
theorem dX11_round_6 : decode bX11_round 6 = .ok (.aload_n 3, 1) := by decide +kernel
theorem dX11_round_7 : decode bX11_round 7 = .ok (.ifnull 10, 3) := by decide +kernel
theorem dX11_round_10 : decode bX11_round 10 = .ok (.iload_n 2, 1) := by decide +kernel
theorem dX11_round_11 : decode bX11_round 11 = .ok (.invokestatic 215, 3) := by decide +kernel
theorem dX11_round_14 : decode bX11_round 14 = .ok (.ifCond .ne 7, 3) := by decide +kernel
theorem dX11_round_17 : decode bX11_round 17 = .ok (.iconst (-1), 1) := by decide +kernel
theorem dX11_round_18 : decode bX11_round 18 = .ok (.goto 12, 3) := by decide +kernel
theorem dX11_round_21 : decode bX11_round 21 = .ok (.aload_n 0, 1) := by decide +kernel
theorem dX11_round_22 : decode bX11_round 22 = .ok (.aload_n 3, 1) := by decide +kernel
theorem dX11_round_23 : decode bX11_round 23 = .ok (.getfield 136, 3) := by decide +kernel
theorem dX11_round_26 : decode bX11_round 26 = .ok (.iload_n 2, 1) := by decide +kernel
theorem dX11_round_27 : decode bX11_round 27 = .ok (.invokevirtual 232, 3) := by decide +kernel
theorem dX11_round_30 : decode bX11_round 30 = .ok (.ireturn, 1) := by decide +kernel
set_option maxRecDepth 20000 in
set_option maxHeartbeats 4000000 in
theorem cX11_round {l : Launch} {k : Kx} {F : Nat} {a1 : Int32} {a2 : Int32} {μ μ' : Mm} {r : Int32} (hk : kok k) (e_this : kex k 11 0) (hf : fX11_round F a1 a2 μ = some (r, μ')) : MM l k 3 yX11_round bX11_round 4 (some .int) [.ref (kad k 11 0), .int a1, .int a2] μ (some (.int r)) μ' := by
  refine MM.of (lv := [(0, .ref (kad k 11 0)), (1, .int a1), (2, .int a2)]) (plainFor_of_name (by decide)) hk (Nat.le_of_ble_eq_true rfl) rfl (fun z hl hx => ?_)
  subst hl
  have hx : Ok z k bX11_round 4 "RopeDance" (some .int) 3 (0, 0) := hx
  have L17 : ∀ (μ : Mm), fX11_round_L17 F  μ = some (r, μ') → Gw z k 4 (k, (0, 0), (some .int), (some (.int r)), μ') (0, 0) 17 μ [] [] := by
    intro  μ hf
    unfold fX11_round_L17 at hf
    refine r_iconst hx ci_m1 dX11_round_17 ?_
    refine r_goto (tgt := 30) hx rfl dX11_round_18 ?_
    exact r_iret hx hf dX11_round_30
  unfold fX11_round at hf
  refine r_aloadn hx 0 rfl rfl dX11_round_0 ?_
  refine r_iloadn hx 1 rfl rfl dX11_round_1 ?_
  obtain ⟨r3, μ2, c1, hf⟩ := f_bd2 hf
  refine r_callV hx (As := [.int a1]) (rest := []) (st1 := [rp k 3 r3]) (c := 11) (i := 0) (TT := T11) (N := 12) MK_X11_figureAt rfl wi_X11_figureAt we_X11_figureAt wm_X11_128 ⟨Nat.le_refl _, Nat.le_refl _⟩ (cX11_figureAt hk e_this c1) e_this (Nat.le_of_ble_eq_true rfl) rfl rfl (Nat.le_of_ble_eq_true rfl) rfl dX11_round_2 (fun hb4 => ?_)
  cases r3 with
  | none =>
    have hf := f_on hf
    refine r_astorenN (lv' := [(3, .null), (0, .ref (kad k 11 0)), (1, .int a1), (2, .int a2)]) hx rfl (Nat.le_of_ble_eq_true rfl) rfl dX11_round_5 ?_
    refine r_aloadnN hx 0 rfl rfl dX11_round_6 ?_
    refine r_nullN (tgt := 17) hx rfl dX11_round_7 ?_
    refine r_sub [] rfl ?_
    exact L17   μ2 hf
  | some i5 =>
    have hf := f_os hf
    have e6 : kex k 3 i5 := xX11_figureAt hk e_this c1
    refine r_astoren (lv' := [(3, .ref (kad k 3 i5)), (0, .ref (kad k 11 0)), (1, .int a1), (2, .int a2)]) hx rfl (Nat.le_of_ble_eq_true rfl) rfl dX11_round_5 ?_
    refine r_aloadn hx 0 rfl rfl dX11_round_6 ?_
    refine r_nullS hx dX11_round_7 ?_
    refine r_iloadn hx 3 rfl rfl dX11_round_10 ?_
    obtain ⟨r9, μ8, c7, hf⟩ := f_bd2 hf
    refine r_callS hx (As := [.int a2]) (rest := []) (st1 := [.int r9]) MK_X11_isDivisor ws_X11_isDivisor wm_X11_215 ⟨Nat.le_refl _, Nat.le_refl _⟩ (cX11_isDivisor hk c7) (Nat.le_of_ble_eq_true rfl) rfl rfl (Nat.le_of_ble_eq_true rfl) rfl dX11_round_11 (fun hb10 => ?_)
    refine r_ifne (tgt := 21) hx rfl dX11_round_14 (fun q11 => ?_) (fun q11 => ?_)
    · have hf := (f_ite hf).2 q11
      refine r_aloadn hx 1 rfl rfl dX11_round_21 ?_
      refine r_aloadn hx 0 rfl rfl dX11_round_22 ?_
      refine r_getR hx (c' := 6) (i' := i5) FK3_1 e6 rfl wf_X11_136 dX11_round_23 (fun e12 => ?_)
      refine r_iloadn hx 3 rfl rfl dX11_round_26 ?_
      obtain ⟨r15, μ14, c13, hf⟩ := f_bd2 hf
      refine r_callV hx (As := [.ref (kad k 6 i5), .int a2]) (rest := []) (st1 := [.int r15]) (c := 11) (i := 0) (TT := T11) (N := 12) MK_X11_roundOf rfl wi_X11_roundOf we_X11_roundOf wm_X11_232 ⟨Nat.le_refl _, Nat.le_refl _⟩ (cX11_roundOf hk e_this e12 c13) e_this (Nat.le_of_ble_eq_true rfl) rfl rfl (Nat.le_of_ble_eq_true rfl) rfl dX11_round_27 (fun hb16 => ?_)
      exact r_iret hx hf dX11_round_30
    · have hf := (f_ite hf).1 q11
      refine r_sub [] rfl ?_
      exact L17   μ8 hf
theorem dX11_power_0 : decode bX11_power 0 = .ok (.aload_n 0, 1) := by decide +kernel
theorem dX11_power_1 : decode bX11_power 1 = .ok (.iload_n 1, 1) := by decide +kernel
theorem dX11_power_2 : decode bX11_power 2 = .ok (.invokevirtual 128, 3) := by decide +kernel
theorem dX11_power_5 : decode bX11_power 5 = .ok (.astore 5, 2) := by decide +kernel
theorem dX11_power_7 : decode bX11_power 7 = .ok (.aload 5, 2) := by decide +kernel
theorem dX11_power_9 : decode bX11_power 9 = .ok (.ifnull 31, 3) := by decide +kernel
theorem dX11_power_12 : decode bX11_power 12 = .ok (.iload_n 2, 1) := by decide +kernel
theorem dX11_power_13 : decode bX11_power 13 = .ok (.ifCond .lt 27, 3) := by decide +kernel
theorem dX11_power_16 : decode bX11_power 16 = .ok (.iload_n 2, 1) := by decide +kernel
theorem dX11_power_17 : decode bX11_power 17 = .ok (.ldc 236, 2) := by decide +kernel
theorem dX11_power_19 : decode bX11_power 19 = .ok (.if_icmp .gt 21, 3) := by decide +kernel
theorem dX11_power_22 : decode bX11_power 22 = .ok (.iload_n 3, 1) := by decide +kernel
theorem dX11_power_23 : decode bX11_power 23 = .ok (.invokestatic 215, 3) := by decide +kernel
theorem dX11_power_26 : decode bX11_power 26 = .ok (.ifCond .eq 14, 3) := by decide +kernel
theorem dX11_power_29 : decode bX11_power 29 = .ok (.iload 4, 2) := by decide +kernel
theorem dX11_power_31 : decode bX11_power 31 = .ok (.ifCond .lt 9, 3) := by decide +kernel
theorem dX11_power_34 : decode bX11_power 34 = .ok (.iload 4, 2) := by decide +kernel
theorem dX11_power_36 : decode bX11_power 36 = .ok (.iconst 3, 1) := by decide +kernel
theorem dX11_power_37 : decode bX11_power 37 = .ok (.if_icmp .le 5, 3) := by decide +kernel
theorem dX11_power_40 : decode bX11_power 40 = .ok (.iconst (-1), 1) := by decide +kernel
theorem dX11_power_41 : decode bX11_power 41 = .ok (.ireturn, 1) := by decide +kernel
theorem dX11_power_42 : decode bX11_power 42 = .ok (.aload_n 0, 1) := by decide +kernel
theorem dX11_power_43 : decode bX11_power 43 = .ok (.getfield 70, 3) := by decide +kernel
theorem dX11_power_46 : decode bX11_power 46 = .ok (.aload 5, 2) := by decide +kernel
theorem dX11_power_48 : decode bX11_power 48 = .ok (.getfield 136, 3) := by decide +kernel
theorem dX11_power_51 : decode bX11_power 51 = .ok (.iload_n 3, 1) := by decide +kernel
theorem dX11_power_52 : decode bX11_power 52 = .ok (.invokevirtual 237, 3) := by decide +kernel
theorem dX11_power_55 : decode bX11_power 55 = .ok (.aload_n 0, 1) := by decide +kernel
theorem dX11_power_56 : decode bX11_power 56 = .ok (.getfield 66, 3) := by decide +kernel
theorem dX11_power_59 : decode bX11_power 59 = .ok (.invokevirtual 241, 3) := by decide +kernel
theorem dX11_power_62 : decode bX11_power 62 = .ok (.iload_n 2, 1) := by decide +kernel
theorem dX11_power_63 : decode bX11_power 63 = .ok (.istore 6, 2) := by decide +kernel
theorem dX11_power_65 : decode bX11_power 65 = .ok (.iload 6, 2) := by decide +kernel
theorem dX11_power_67 : decode bX11_power 67 = .ok (.ifCond .le 74, 3) := by decide +kernel
theorem dX11_power_70 : decode bX11_power 70 = .ok (.iload 6, 2) := by decide +kernel
theorem dX11_power_72 : decode bX11_power 72 = .ok (.iconst 1, 1) := by decide +kernel
theorem dX11_power_73 : decode bX11_power 73 = .ok (.iand, 1) := by decide +kernel
theorem dX11_power_74 : decode bX11_power 74 = .ok (.iconst 1, 1) := by decide +kernel
theorem dX11_power_75 : decode bX11_power 75 = .ok (.if_icmp .ne 30, 3) := by decide +kernel
theorem dX11_power_78 : decode bX11_power 78 = .ok (.aload_n 0, 1) := by decide +kernel
theorem dX11_power_79 : decode bX11_power 79 = .ok (.getfield 66, 3) := by decide +kernel
theorem dX11_power_82 : decode bX11_power 82 = .ok (.aload_n 0, 1) := by decide +kernel
theorem dX11_power_83 : decode bX11_power 83 = .ok (.getfield 66, 3) := by decide +kernel
theorem dX11_power_86 : decode bX11_power 86 = .ok (.aload_n 0, 1) := by decide +kernel
theorem dX11_power_87 : decode bX11_power 87 = .ok (.getfield 70, 3) := by decide +kernel
theorem dX11_power_90 : decode bX11_power 90 = .ok (.invokevirtual 244, 3) := by decide +kernel
theorem dX11_power_93 : decode bX11_power 93 = .ok (.aload_n 0, 1) := by decide +kernel
theorem dX11_power_94 : decode bX11_power 94 = .ok (.getfield 66, 3) := by decide +kernel
theorem dX11_power_97 : decode bX11_power 97 = .ok (.aload_n 0, 1) := by decide +kernel
theorem dX11_power_98 : decode bX11_power 98 = .ok (.getfield 66, 3) := by decide +kernel
theorem dX11_power_101 : decode bX11_power 101 = .ok (.iload_n 3, 1) := by decide +kernel
theorem dX11_power_102 : decode bX11_power 102 = .ok (.invokevirtual 237, 3) := by decide +kernel
theorem dX11_power_105 : decode bX11_power 105 = .ok (.aload_n 0, 1) := by decide +kernel
theorem dX11_power_106 : decode bX11_power 106 = .ok (.getfield 70, 3) := by decide +kernel
theorem dX11_power_109 : decode bX11_power 109 = .ok (.aload_n 0, 1) := by decide +kernel
theorem dX11_power_110 : decode bX11_power 110 = .ok (.getfield 70, 3) := by decide +kernel
theorem dX11_power_113 : decode bX11_power 113 = .ok (.aload_n 0, 1) := by decide +kernel
theorem dX11_power_114 : decode bX11_power 114 = .ok (.getfield 70, 3) := by decide +kernel
theorem dX11_power_117 : decode bX11_power 117 = .ok (.invokevirtual 244, 3) := by decide +kernel
theorem dX11_power_120 : decode bX11_power 120 = .ok (.aload_n 0, 1) := by decide +kernel
theorem dX11_power_121 : decode bX11_power 121 = .ok (.getfield 70, 3) := by decide +kernel
theorem dX11_power_124 : decode bX11_power 124 = .ok (.aload_n 0, 1) := by decide +kernel
theorem dX11_power_125 : decode bX11_power 125 = .ok (.getfield 70, 3) := by decide +kernel
theorem dX11_power_128 : decode bX11_power 128 = .ok (.iload_n 3, 1) := by decide +kernel
theorem dX11_power_129 : decode bX11_power 129 = .ok (.invokevirtual 237, 3) := by decide +kernel
theorem dX11_power_132 : decode bX11_power 132 = .ok (.iload 6, 2) := by decide +kernel
theorem dX11_power_134 : decode bX11_power 134 = .ok (.iconst 1, 1) := by decide +kernel
theorem dX11_power_135 : decode bX11_power 135 = .ok (.ishr, 1) := by decide +kernel
theorem dX11_power_136 : decode bX11_power 136 = .ok (.istore 6, 2) := by decide +kernel
theorem dX11_power_138 : decode bX11_power 138 = .ok (.goto (-73), 3) := by decide +kernel
theorem dX11_power_141 : decode bX11_power 141 = .ok (.aload_n 0, 1) := by decide +kernel
theorem dX11_power_142 : decode bX11_power 142 = .ok (.getfield 66, 3) := by decide +kernel
theorem dX11_power_145 : decode bX11_power 145 = .ok (.iload 4, 2) := by decide +kernel
theorem dX11_power_147 : decode bX11_power 147 = .ok (.invokevirtual 142, 3) := by decide +kernel
theorem dX11_power_150 : decode bX11_power 150 = .ok (.ireturn, 1) := by decide +kernel
set_option maxRecDepth 20000 in
set_option maxHeartbeats 4000000 in
theorem cX11_power {l : Launch} {k : Kx} {F : Nat} {a1 : Int32} {a2 : Int32} {a3 : Int32} {a4 : Int32} {μ μ' : Mm} {r : Int32} (hk : kok k) (e_this : kex k 11 0) (hf : fX11_power F a1 a2 a3 a4 μ = some (r, μ')) : MM l k 2 yX11_power bX11_power 7 (some .int) [.ref (kad k 11 0), .int a1, .int a2, .int a3, .int a4] μ (some (.int r)) μ' := by
  refine MM.of (lv := [(0, .ref (kad k 11 0)), (1, .int a1), (2, .int a2), (3, .int a3), (4, .int a4)]) (plainFor_of_name (by decide)) hk (Nat.le_of_ble_eq_true rfl) rfl (fun z hl hx => ?_)
  subst hl
  have hx : Ok z k bX11_power 7 "RopeDance" (some .int) 2 (0, 0) := hx
  have L105 : ∀ (K65 : Int32 → Int32 → Int32 → Mm → Option (Int32 × Mm)) (HK65 : ∀ (v3 : Int32) (v4 : Int32) (v6 : Int32) (μ : Mm) (e_v0 : kex k 11 0), K65 v3 v4 v6 μ = some (r, μ') → Gw z k 7 (k, (0, 0), (some .int), (some (.int r)), μ') (0, 0) 65 μ [(0, .ref (kad k 11 0)), (3, .int v3), (4, .int v4), (6, .int v6)] []) (v3 : Int32) (v4 : Int32) (v6 : Int32) (μ : Mm) (e_v0 : kex k 11 0), fX11_power_L105 F K65 v3 v4 v6 μ = some (r, μ') → Gw z k 7 (k, (0, 0), (some .int), (some (.int r)), μ') (0, 0) 105 μ [(0, .ref (kad k 11 0)), (3, .int v3), (4, .int v4), (6, .int v6)] [] := by
    intro K65 HK65 v3 v4 v6 μ e_v0 hf
    unfold fX11_power_L105 at hf
    refine r_aloadn hx 0 rfl rfl dX11_power_105 ?_
    refine r_getR hx (c' := 6) (i' := 19) FK11_9 e_v0 rfl wf_X11_70 dX11_power_106 (fun e32 => ?_)
    refine r_aloadn hx 0 rfl rfl dX11_power_109 ?_
    refine r_getR hx (c' := 6) (i' := 19) FK11_9 e_v0 rfl wf_X11_70 dX11_power_110 (fun e33 => ?_)
    refine r_aloadn hx 0 rfl rfl dX11_power_113 ?_
    refine r_getR hx (c' := 6) (i' := 19) FK11_9 e_v0 rfl wf_X11_70 dX11_power_114 (fun e34 => ?_)
    obtain ⟨μ36, c35, hf⟩ := f_bd1 hf
    refine r_callV hx (As := [.ref (kad k 6 19), .ref (kad k 6 19)]) (rest := []) (st1 := []) (c := 6) (i := 19) (TT := T6) (N := 4) MK_X6_become rfl wi_X6_become we_X6_become wm_X11_244 ⟨Nat.le_refl _, Nat.le_refl _⟩ (cX6_become hk e32 e33 e34 c35) e32 (Nat.le_of_ble_eq_true rfl) rfl rfl (Nat.le_of_ble_eq_true rfl) rfl dX11_power_117 (fun hb37 => ?_)
    refine r_aloadn hx 0 rfl rfl dX11_power_120 ?_
    refine r_getR hx (c' := 6) (i' := 19) FK11_9 e_v0 rfl wf_X11_70 dX11_power_121 (fun e38 => ?_)
    refine r_aloadn hx 0 rfl rfl dX11_power_124 ?_
    refine r_getR hx (c' := 6) (i' := 19) FK11_9 e_v0 rfl wf_X11_70 dX11_power_125 (fun e39 => ?_)
    refine r_iloadn hx 1 rfl rfl dX11_power_128 ?_
    obtain ⟨μ41, c40, hf⟩ := f_bd1 hf
    refine r_callV hx (As := [.ref (kad k 6 19), .int v3]) (rest := []) (st1 := []) (c := 6) (i := 19) (TT := T6) (N := 4) MK_X6_restsOf rfl wi_X6_restsOf we_X6_restsOf wm_X11_237 ⟨Nat.le_refl _, Nat.le_refl _⟩ (cX6_restsOf hk e38 e39 c40) e38 (Nat.le_of_ble_eq_true rfl) rfl rfl (Nat.le_of_ble_eq_true rfl) rfl dX11_power_129 (fun hb42 => ?_)
    refine r_iload hx 3 rfl dX11_power_132 ?_
    refine r_iconst hx ci_1 dX11_power_134 ?_
    refine r_ishr hx dX11_power_135 ?_
    refine r_istore (lv' := [(6, .int (v6 >>> (1 &&& 31))), (0, .ref (kad k 11 0)), (3, .int v3), (4, .int v4)]) hx (Nat.le_of_ble_eq_true rfl) rfl dX11_power_136 ?_
    refine r_goto (tgt := 65) hx rfl dX11_power_138 ?_
    refine r_sub [1, 2, 3, 0] rfl ?_
    exact HK65 v3 v4 (v6 >>> (1 &&& 31)) μ41 e_v0 hf
  have L65 : ∀ (n : Nat) (v3 : Int32) (v4 : Int32) (v6 : Int32) (μ : Mm) (e_v0 : kex k 11 0), fX11_power_L65 F n v3 v4 v6 μ = some (r, μ') → Gw z k 7 (k, (0, 0), (some .int), (some (.int r)), μ') (0, 0) 65 μ [(0, .ref (kad k 11 0)), (3, .int v3), (4, .int v4), (6, .int v6)] [] := by
    intro  n
    induction n with
    | zero =>
      intro v3 v4 v6 μ e_v0 hf
      exact f_no (show (none : Option (Int32 × Mm)) = _ from hf)
    | succ n ih =>
      intro v3 v4 v6 μ e_v0 hf
      rw [fX11_power_L65] at hf
      refine r_iload hx 3 rfl dX11_power_65 ?_
      refine r_ifle (tgt := 141) hx rfl dX11_power_67 (fun q25 => ?_) (fun q25 => ?_)
      · have hf := (f_ite hf).1 q25
        refine r_aloadn hx 0 rfl rfl dX11_power_141 ?_
        refine r_getR hx (c' := 6) (i' := 18) FK11_8 e_v0 rfl wf_X11_66 dX11_power_142 (fun e26 => ?_)
        refine r_iload hx 2 rfl dX11_power_145 ?_
        obtain ⟨r29, μ28, c27, hf⟩ := f_bd2 hf
        refine r_callV hx (As := [.int v4]) (rest := []) (st1 := [.int r29]) (c := 6) (i := 18) (TT := T6) (N := 4) MK_X6_part rfl wi_X6_part we_X6_part wm_X11_142 ⟨Nat.le_refl _, Nat.le_refl _⟩ (cX6_part hk e26 c27) e26 (Nat.le_of_ble_eq_true rfl) rfl rfl (Nat.le_of_ble_eq_true rfl) rfl dX11_power_147 (fun hb30 => ?_)
        exact r_iret hx hf dX11_power_150
      · have hf := (f_ite hf).2 q25
        refine r_iload hx 3 rfl dX11_power_70 ?_
        refine r_iconst hx ci_1 dX11_power_72 ?_
        refine r_iand hx dX11_power_73 ?_
        refine r_iconst hx ci_1 dX11_power_74 ?_
        refine r_icne (tgt := 105) hx rfl dX11_power_75 (fun q31 => ?_) (fun q31 => ?_)
        · have hf := (f_ite hf).2 q31
          refine r_sub [0, 1, 2, 3] rfl ?_
          exact L105 _ ih  v3 v4 v6 μ e_v0 hf
        · have hf := (f_ite hf).1 q31
          refine r_aloadn hx 0 rfl rfl dX11_power_78 ?_
          refine r_getR hx (c' := 6) (i' := 18) FK11_8 e_v0 rfl wf_X11_66 dX11_power_79 (fun e43 => ?_)
          refine r_aloadn hx 0 rfl rfl dX11_power_82 ?_
          refine r_getR hx (c' := 6) (i' := 18) FK11_8 e_v0 rfl wf_X11_66 dX11_power_83 (fun e44 => ?_)
          refine r_aloadn hx 0 rfl rfl dX11_power_86 ?_
          refine r_getR hx (c' := 6) (i' := 19) FK11_9 e_v0 rfl wf_X11_70 dX11_power_87 (fun e45 => ?_)
          obtain ⟨μ47, c46, hf⟩ := f_bd1 hf
          refine r_callV hx (As := [.ref (kad k 6 18), .ref (kad k 6 19)]) (rest := []) (st1 := []) (c := 6) (i := 18) (TT := T6) (N := 4) MK_X6_become rfl wi_X6_become we_X6_become wm_X11_244 ⟨Nat.le_refl _, Nat.le_refl _⟩ (cX6_become hk e43 e44 e45 c46) e43 (Nat.le_of_ble_eq_true rfl) rfl rfl (Nat.le_of_ble_eq_true rfl) rfl dX11_power_90 (fun hb48 => ?_)
          refine r_aloadn hx 0 rfl rfl dX11_power_93 ?_
          refine r_getR hx (c' := 6) (i' := 18) FK11_8 e_v0 rfl wf_X11_66 dX11_power_94 (fun e49 => ?_)
          refine r_aloadn hx 0 rfl rfl dX11_power_97 ?_
          refine r_getR hx (c' := 6) (i' := 18) FK11_8 e_v0 rfl wf_X11_66 dX11_power_98 (fun e50 => ?_)
          refine r_iloadn hx 1 rfl rfl dX11_power_101 ?_
          obtain ⟨μ52, c51, hf⟩ := f_bd1 hf
          refine r_callV hx (As := [.ref (kad k 6 18), .int v3]) (rest := []) (st1 := []) (c := 6) (i := 18) (TT := T6) (N := 4) MK_X6_restsOf rfl wi_X6_restsOf we_X6_restsOf wm_X11_237 ⟨Nat.le_refl _, Nat.le_refl _⟩ (cX6_restsOf hk e49 e50 c51) e49 (Nat.le_of_ble_eq_true rfl) rfl rfl (Nat.le_of_ble_eq_true rfl) rfl dX11_power_102 (fun hb53 => ?_)
          refine r_sub [0, 1, 2, 3] rfl ?_
          exact L105 _ ih  v3 v4 v6 μ52 e_v0 hf
  unfold fX11_power at hf
  refine r_aloadn hx 0 rfl rfl dX11_power_0 ?_
  refine r_iloadn hx 1 rfl rfl dX11_power_1 ?_
  obtain ⟨r3, μ2, c1, hf⟩ := f_bd2 hf
  refine r_callV hx (As := [.int a1]) (rest := []) (st1 := [rp k 3 r3]) (c := 11) (i := 0) (TT := T11) (N := 12) MK_X11_figureAt rfl wi_X11_figureAt we_X11_figureAt wm_X11_128 ⟨Nat.le_refl _, Nat.le_refl _⟩ (cX11_figureAt hk e_this c1) e_this (Nat.le_of_ble_eq_true rfl) rfl rfl (Nat.le_of_ble_eq_true rfl) rfl dX11_power_2 (fun hb4 => ?_)
  cases r3 with
  | none =>
    have hf := f_on hf
    refine r_astoreN (lv' := [(5, .null), (0, .ref (kad k 11 0)), (1, .int a1), (2, .int a2), (3, .int a3), (4, .int a4)]) hx (Nat.le_of_ble_eq_true rfl) rfl dX11_power_5 ?_
    refine r_aloadN hx 0 rfl dX11_power_7 ?_
    refine r_nullN (tgt := 40) hx rfl dX11_power_9 ?_
    refine r_iconst hx ci_m1 dX11_power_40 ?_
    exact r_iret hx hf dX11_power_41
  | some i5 =>
    have hf := f_os hf
    have e6 : kex k 3 i5 := xX11_figureAt hk e_this c1
    refine r_astore (lv' := [(5, .ref (kad k 3 i5)), (0, .ref (kad k 11 0)), (1, .int a1), (2, .int a2), (3, .int a3), (4, .int a4)]) hx (Nat.le_of_ble_eq_true rfl) rfl dX11_power_5 ?_
    refine r_aload hx 0 rfl dX11_power_7 ?_
    refine r_nullS hx dX11_power_9 ?_
    refine r_iloadn hx 3 rfl rfl dX11_power_12 ?_
    refine r_iflt (tgt := 40) hx rfl dX11_power_13 (fun q7 => ?_) (fun q7 => ?_)
    · have hf := (f_ite hf).1 q7
      refine r_iconst hx ci_m1 dX11_power_40 ?_
      exact r_iret hx hf dX11_power_41
    · have hf := (f_ite hf).2 q7
      refine r_iloadn hx 3 rfl rfl dX11_power_16 ?_
      refine r_ldc hx wc_X11_236 dX11_power_17 ?_
      refine r_icgt (tgt := 40) hx rfl dX11_power_19 (fun q8 => ?_) (fun q8 => ?_)
      · have hf := (f_ite hf).1 q8
        refine r_iconst hx ci_m1 dX11_power_40 ?_
        exact r_iret hx hf dX11_power_41
      · have hf := (f_ite hf).2 q8
        refine r_iloadn hx 4 rfl rfl dX11_power_22 ?_
        obtain ⟨r11, μ10, c9, hf⟩ := f_bd2 hf
        refine r_callS hx (As := [.int a3]) (rest := []) (st1 := [.int r11]) MK_X11_isDivisor ws_X11_isDivisor wm_X11_215 ⟨Nat.le_refl _, Nat.le_refl _⟩ (cX11_isDivisor hk c9) (Nat.le_of_ble_eq_true rfl) rfl rfl (Nat.le_of_ble_eq_true rfl) rfl dX11_power_23 (fun hb12 => ?_)
        refine r_ifeq (tgt := 40) hx rfl dX11_power_26 (fun q13 => ?_) (fun q13 => ?_)
        · have hf := (f_ite hf).1 q13
          refine r_iconst hx ci_m1 dX11_power_40 ?_
          exact r_iret hx hf dX11_power_41
        · have hf := (f_ite hf).2 q13
          refine r_iload hx 5 rfl dX11_power_29 ?_
          refine r_iflt (tgt := 40) hx rfl dX11_power_31 (fun q14 => ?_) (fun q14 => ?_)
          · have hf := (f_ite hf).1 q14
            refine r_iconst hx ci_m1 dX11_power_40 ?_
            exact r_iret hx hf dX11_power_41
          · have hf := (f_ite hf).2 q14
            refine r_iload hx 5 rfl dX11_power_34 ?_
            refine r_iconst hx ci_3 dX11_power_36 ?_
            refine r_icle (tgt := 42) hx rfl dX11_power_37 (fun q15 => ?_) (fun q15 => ?_)
            · have hf := (f_ite hf).1 q15
              refine r_aloadn hx 1 rfl rfl dX11_power_42 ?_
              refine r_getR hx (c' := 6) (i' := 19) FK11_9 e_this rfl wf_X11_70 dX11_power_43 (fun e16 => ?_)
              refine r_aload hx 0 rfl dX11_power_46 ?_
              refine r_getR hx (c' := 6) (i' := i5) FK3_1 e6 rfl wf_X11_136 dX11_power_48 (fun e17 => ?_)
              refine r_iloadn hx 4 rfl rfl dX11_power_51 ?_
              obtain ⟨μ19, c18, hf⟩ := f_bd1 hf
              refine r_callV hx (As := [.ref (kad k 6 i5), .int a3]) (rest := []) (st1 := []) (c := 6) (i := 19) (TT := T6) (N := 4) MK_X6_restsOf rfl wi_X6_restsOf we_X6_restsOf wm_X11_237 ⟨Nat.le_refl _, Nat.le_refl _⟩ (cX6_restsOf hk e16 e17 c18) e16 (Nat.le_of_ble_eq_true rfl) rfl rfl (Nat.le_of_ble_eq_true rfl) rfl dX11_power_52 (fun hb20 => ?_)
              refine r_aloadn hx 1 rfl rfl dX11_power_55 ?_
              refine r_getR hx (c' := 6) (i' := 18) FK11_8 e_this rfl wf_X11_66 dX11_power_56 (fun e21 => ?_)
              obtain ⟨μ23, c22, hf⟩ := f_bd1 hf
              refine r_callV hx (As := []) (rest := []) (st1 := []) (c := 6) (i := 18) (TT := T6) (N := 4) MK_X6_clear rfl wi_X6_clear we_X6_clear wm_X11_241 ⟨Nat.le_refl _, Nat.le_refl _⟩ (cX6_clear hk e21 c22) e21 (Nat.le_of_ble_eq_true rfl) rfl rfl (Nat.le_of_ble_eq_true rfl) rfl dX11_power_59 (fun hb24 => ?_)
              refine r_iloadn hx 3 rfl rfl dX11_power_62 ?_
              refine r_istore (lv' := [(6, .int a2), (5, .ref (kad k 3 i5)), (0, .ref (kad k 11 0)), (1, .int a1), (2, .int a2), (3, .int a3), (4, .int a4)]) hx (Nat.le_of_ble_eq_true rfl) rfl dX11_power_63 ?_
              refine r_sub [2, 5, 6, 0] rfl ?_
              exact L65 F a3 a4 a2 μ23 e_this hf
            · have hf := (f_ite hf).2 q15
              refine r_iconst hx ci_m1 dX11_power_40 ?_
              exact r_iret hx hf dX11_power_41
theorem dX11_stays_0 : decode bX11_stays 0 = .ok (.aload_n 0, 1) := by decide +kernel
theorem dX11_stays_1 : decode bX11_stays 1 = .ok (.iload_n 1, 1) := by decide +kernel
theorem dX11_stays_2 : decode bX11_stays 2 = .ok (.invokevirtual 128, 3) := by decide +kernel
theorem dX11_stays_5 : decode bX11_stays 5 = .ok (.astore_n 3, 1) := by decide +kernel
theorem dX11_stays_6 : decode bX11_stays 6 = .ok (.aload_n 3, 1) := by decide +kernel
theorem dX11_stays_7 : decode bX11_stays 7 = .ok (.ifnull 12, 3) := by decide +kernel
theorem dX11_stays_10 : decode bX11_stays 10 = .ok (.iload_n 2, 1) := by decide +kernel
theorem dX11_stays_11 : decode bX11_stays 11 = .ok (.ifCond .lt 8, 3) := by decide +kernel
theorem dX11_stays_14 : decode bX11_stays 14 = .ok (.iload_n 2, 1) := by decide +kernel
theorem dX11_stays_15 : decode bX11_stays 15 = .ok (.iconst 2, 1) := by decide +kernel
theorem dX11_stays_16 : decode bX11_stays 16 = .ok (.if_icmp .le 7, 3) := by decide +kernel
theorem dX11_stays_19 : decode bX11_stays 19 = .ok (.sipush (-1000), 3) := by decide +kernel
theorem dX11_stays_22 : decode bX11_stays 22 = .ok (.ireturn, 1) := by decide +kernel
theorem dX11_stays_23 : decode bX11_stays 23 = .ok (.aload_n 3, 1) := by decide +kernel
theorem dX11_stays_24 : decode bX11_stays 24 = .ok (.getfield 136, 3) := by decide +kernel
theorem dX11_stays_27 : decode bX11_stays 27 = .ok (.aload_n 0, 1) := by decide +kernel
theorem dX11_stays_28 : decode bX11_stays 28 = .ok (.getfield 59, 3) := by decide +kernel
theorem dX11_stays_31 : decode bX11_stays 31 = .ok (.invokevirtual 248, 3) := by decide +kernel
theorem dX11_stays_34 : decode bX11_stays 34 = .ok (.istore 4, 2) := by decide +kernel
theorem dX11_stays_36 : decode bX11_stays 36 = .ok (.iload_n 2, 1) := by decide +kernel
theorem dX11_stays_37 : decode bX11_stays 37 = .ok (.ifCond .ne 6, 3) := by decide +kernel
theorem dX11_stays_40 : decode bX11_stays 40 = .ok (.iload 4, 2) := by decide +kernel
theorem dX11_stays_42 : decode bX11_stays 42 = .ok (.ireturn, 1) := by decide +kernel
theorem dX11_stays_43 : decode bX11_stays 43 = .ok (.iload 4, 2) := by decide +kernel
theorem dX11_stays_45 : decode bX11_stays 45 = .ok (.ifCond .ne 7, 3) := by decide +kernel
theorem dX11_stays_48 : decode bX11_stays 48 = .ok (.sipush (-1000), 3) := by decide +kernel
theorem dX11_stays_51 : decode bX11_stays 51 = .ok (.ireturn, 1) := by decide +kernel
theorem dX11_stays_52 : decode bX11_stays 52 = .ok (.iload_n 2, 1) := by decide +kernel
theorem dX11_stays_53 : decode bX11_stays 53 = .ok (.iconst 1, 1) := by decide +kernel
theorem dX11_stays_54 : decode bX11_stays 54 = .ok (.if_icmp .ne 13, 3) := by decide +kernel
theorem dX11_stays_57 : decode bX11_stays 57 = .ok (.aload_n 0, 1) := by decide +kernel
theorem dX11_stays_58 : decode bX11_stays 58 = .ok (.getfield 59, 3) := by decide +kernel
theorem dX11_stays_61 : decode bX11_stays 61 = .ok (.getfield 102, 3) := by decide +kernel
theorem dX11_stays_64 : decode bX11_stays 64 = .ok (.goto 10, 3) := by decide +kernel
theorem dX11_stays_67 : decode bX11_stays 67 = .ok (.aload_n 0, 1) := by decide +kernel
theorem dX11_stays_68 : decode bX11_stays 68 = .ok (.getfield 59, 3) := by decide +kernel
theorem dX11_stays_71 : decode bX11_stays 71 = .ok (.getfield 105, 3) := by decide +kernel
theorem dX11_stays_74 : decode bX11_stays 74 = .ok (.ireturn, 1) := by decide +kernel
set_option maxRecDepth 20000 in
set_option maxHeartbeats 4000000 in
theorem cX11_stays {l : Launch} {k : Kx} {F : Nat} {a1 : Int32} {a2 : Int32} {μ μ' : Mm} {r : Int32} (hk : kok k) (e_this : kex k 11 0) (hf : fX11_stays F a1 a2 μ = some (r, μ')) : MM l k 2 yX11_stays bX11_stays 5 (some .int) [.ref (kad k 11 0), .int a1, .int a2] μ (some (.int r)) μ' := by
  refine MM.of (lv := [(0, .ref (kad k 11 0)), (1, .int a1), (2, .int a2)]) (plainFor_of_name (by decide)) hk (Nat.le_of_ble_eq_true rfl) rfl (fun z hl hx => ?_)
  subst hl
  have hx : Ok z k bX11_stays 5 "RopeDance" (some .int) 2 (0, 0) := hx
  unfold fX11_stays at hf
  refine r_aloadn hx 0 rfl rfl dX11_stays_0 ?_
  refine r_iloadn hx 1 rfl rfl dX11_stays_1 ?_
  obtain ⟨r3, μ2, c1, hf⟩ := f_bd2 hf
  refine r_callV hx (As := [.int a1]) (rest := []) (st1 := [rp k 3 r3]) (c := 11) (i := 0) (TT := T11) (N := 12) MK_X11_figureAt rfl wi_X11_figureAt we_X11_figureAt wm_X11_128 ⟨Nat.le_refl _, Nat.le_refl _⟩ (cX11_figureAt hk e_this c1) e_this (Nat.le_of_ble_eq_true rfl) rfl rfl (Nat.le_of_ble_eq_true rfl) rfl dX11_stays_2 (fun hb4 => ?_)
  cases r3 with
  | none =>
    have hf := f_on hf
    refine r_astorenN (lv' := [(3, .null), (0, .ref (kad k 11 0)), (1, .int a1), (2, .int a2)]) hx rfl (Nat.le_of_ble_eq_true rfl) rfl dX11_stays_5 ?_
    refine r_aloadnN hx 0 rfl rfl dX11_stays_6 ?_
    refine r_nullN (tgt := 19) hx rfl dX11_stays_7 ?_
    refine r_sipush hx cs_m1000 dX11_stays_19 ?_
    exact r_iret hx hf dX11_stays_22
  | some i5 =>
    have hf := f_os hf
    have e6 : kex k 3 i5 := xX11_figureAt hk e_this c1
    refine r_astoren (lv' := [(3, .ref (kad k 3 i5)), (0, .ref (kad k 11 0)), (1, .int a1), (2, .int a2)]) hx rfl (Nat.le_of_ble_eq_true rfl) rfl dX11_stays_5 ?_
    refine r_aloadn hx 0 rfl rfl dX11_stays_6 ?_
    refine r_nullS hx dX11_stays_7 ?_
    refine r_iloadn hx 3 rfl rfl dX11_stays_10 ?_
    refine r_iflt (tgt := 19) hx rfl dX11_stays_11 (fun q7 => ?_) (fun q7 => ?_)
    · have hf := (f_ite hf).1 q7
      refine r_sipush hx cs_m1000 dX11_stays_19 ?_
      exact r_iret hx hf dX11_stays_22
    · have hf := (f_ite hf).2 q7
      refine r_iloadn hx 3 rfl rfl dX11_stays_14 ?_
      refine r_iconst hx ci_2 dX11_stays_15 ?_
      refine r_icle (tgt := 23) hx rfl dX11_stays_16 (fun q8 => ?_) (fun q8 => ?_)
      · have hf := (f_ite hf).1 q8
        refine r_aloadn hx 0 rfl rfl dX11_stays_23 ?_
        refine r_getR hx (c' := 6) (i' := i5) FK3_1 e6 rfl wf_X11_136 dX11_stays_24 (fun e9 => ?_)
        refine r_aloadn hx 1 rfl rfl dX11_stays_27 ?_
        refine r_getR hx (c' := 5) (i' := 4) FK11_7 e_this rfl wf_X11_59 dX11_stays_28 (fun e10 => ?_)
        obtain ⟨r13, μ12, c11, hf⟩ := f_bd2 hf
        refine r_callV hx (As := [.ref (kad k 5 4)]) (rest := []) (st1 := [.int r13]) (c := 6) (i := i5) (TT := T6) (N := 4) MK_X6_stay rfl wi_X6_stay we_X6_stay wm_X11_248 ⟨Nat.le_refl _, Nat.le_refl _⟩ (cX6_stay hk e9 e10 c11) e9 (Nat.le_of_ble_eq_true rfl) rfl rfl (Nat.le_of_ble_eq_true rfl) rfl dX11_stays_31 (fun hb14 => ?_)
        refine r_istore (lv' := [(4, .int r13), (3, .ref (kad k 3 i5)), (0, .ref (kad k 11 0)), (1, .int a1), (2, .int a2)]) hx (Nat.le_of_ble_eq_true rfl) rfl dX11_stays_34 ?_
        refine r_iloadn hx 4 rfl rfl dX11_stays_36 ?_
        refine r_ifne (tgt := 43) hx rfl dX11_stays_37 (fun q15 => ?_) (fun q15 => ?_)
        · have hf := (f_ite hf).2 q15
          refine r_iload hx 0 rfl dX11_stays_43 ?_
          refine r_ifne (tgt := 52) hx rfl dX11_stays_45 (fun q16 => ?_) (fun q16 => ?_)
          · have hf := (f_ite hf).2 q16
            refine r_iloadn hx 4 rfl rfl dX11_stays_52 ?_
            refine r_iconst hx ci_1 dX11_stays_53 ?_
            refine r_icne (tgt := 67) hx rfl dX11_stays_54 (fun q17 => ?_) (fun q17 => ?_)
            · have hf := (f_ite hf).2 q17
              refine r_aloadn hx 2 rfl rfl dX11_stays_67 ?_
              refine r_getR hx (c' := 5) (i' := 4) FK11_7 e_this rfl wf_X11_59 dX11_stays_68 (fun e18 => ?_)
              refine r_getI hx FK5_1 e18 wf_X11_105 dX11_stays_71 ?_
              exact r_iret hx hf dX11_stays_74
            · have hf := (f_ite hf).1 q17
              refine r_aloadn hx 2 rfl rfl dX11_stays_57 ?_
              refine r_getR hx (c' := 5) (i' := 4) FK11_7 e_this rfl wf_X11_59 dX11_stays_58 (fun e19 => ?_)
              refine r_getI hx FK5_0 e19 wf_X11_102 dX11_stays_61 ?_
              refine r_goto (tgt := 74) hx rfl dX11_stays_64 ?_
              exact r_iret hx hf dX11_stays_74
          · have hf := (f_ite hf).1 q16
            refine r_sipush hx cs_m1000 dX11_stays_48 ?_
            exact r_iret hx hf dX11_stays_51
        · have hf := (f_ite hf).1 q15
          refine r_iload hx 0 rfl dX11_stays_40 ?_
          exact r_iret hx hf dX11_stays_42
      · have hf := (f_ite hf).2 q8
        refine r_sipush hx cs_m1000 dX11_stays_19 ?_
        exact r_iret hx hf dX11_stays_22
theorem dX11_mind_0 : decode bX11_mind 0 = .ok (.aload_n 0, 1) := by decide +kernel
theorem dX11_mind_1 : decode bX11_mind 1 = .ok (.iload_n 1, 1) := by decide +kernel
theorem dX11_mind_2 : decode bX11_mind 2 = .ok (.invokevirtual 128, 3) := by decide +kernel
theorem dX11_mind_5 : decode bX11_mind 5 = .ok (.astore_n 3, 1) := by decide +kernel
theorem dX11_mind_6 : decode bX11_mind 6 = .ok (.aload_n 0, 1) := by decide +kernel
theorem dX11_mind_7 : decode bX11_mind 7 = .ok (.iload_n 2, 1) := by decide +kernel
theorem dX11_mind_8 : decode bX11_mind 8 = .ok (.invokevirtual 128, 3) := by decide +kernel
theorem dX11_mind_11 : decode bX11_mind 11 = .ok (.astore 4, 2) := by decide +kernel
theorem dX11_mind_13 : decode bX11_mind 13 = .ok (.aload_n 3, 1) := by decide +kernel
theorem dX11_mind_14 : decode bX11_mind 14 = .ok (.ifnull 8, 3) := by decide +kernel
theorem dX11_mind_17 : decode bX11_mind 17 = .ok (.aload 4, 2) := by decide +kernel
theorem dX11_mind_19 : decode bX11_mind 19 = .ok (.ifnonnull 5, 3) := by decide +kernel
theorem dX11_mind_22 : decode bX11_mind 22 = .ok (.iconst (-1), 1) := by decide +kernel
theorem dX11_mind_23 : decode bX11_mind 23 = .ok (.ireturn, 1) := by decide +kernel
theorem dX11_mind_24 : decode bX11_mind 24 = .ok (.aload_n 0, 1) := by decide +kernel
theorem dX11_mind_25 : decode bX11_mind 25 = .ok (.getfield 66, 3) := by decide +kernel
theorem dX11_mind_28 : decode bX11_mind 28 = .ok (.aload_n 3, 1) := by decide +kernel
theorem dX11_mind_29 : decode bX11_mind 29 = .ok (.getfield 136, 3) := by decide +kernel
theorem dX11_mind_32 : decode bX11_mind 32 = .ok (.aload 4, 2) := by decide +kernel
theorem dX11_mind_34 : decode bX11_mind 34 = .ok (.getfield 136, 3) := by decide +kernel
theorem dX11_mind_37 : decode bX11_mind 37 = .ok (.invokevirtual 244, 3) := by decide +kernel
theorem dX11_mind_40 : decode bX11_mind 40 = .ok (.aload_n 0, 1) := by decide +kernel
theorem dX11_mind_41 : decode bX11_mind 41 = .ok (.getfield 70, 3) := by decide +kernel
theorem dX11_mind_44 : decode bX11_mind 44 = .ok (.aload 4, 2) := by decide +kernel
theorem dX11_mind_46 : decode bX11_mind 46 = .ok (.getfield 136, 3) := by decide +kernel
theorem dX11_mind_49 : decode bX11_mind 49 = .ok (.aload_n 3, 1) := by decide +kernel
theorem dX11_mind_50 : decode bX11_mind 50 = .ok (.getfield 136, 3) := by decide +kernel
theorem dX11_mind_53 : decode bX11_mind 53 = .ok (.invokevirtual 244, 3) := by decide +kernel
theorem dX11_mind_56 : decode bX11_mind 56 = .ok (.aload_n 0, 1) := by decide +kernel
theorem dX11_mind_57 : decode bX11_mind 57 = .ok (.getfield 66, 3) := by decide +kernel
theorem dX11_mind_60 : decode bX11_mind 60 = .ok (.aload_n 0, 1) := by decide +kernel
theorem dX11_mind_61 : decode bX11_mind 61 = .ok (.getfield 70, 3) := by decide +kernel
theorem dX11_mind_64 : decode bX11_mind 64 = .ok (.invokevirtual 252, 3) := by decide +kernel
theorem dX11_mind_67 : decode bX11_mind 67 = .ok (.ifCond .eq 7, 3) := by decide +kernel
theorem dX11_mind_70 : decode bX11_mind 70 = .ok (.iconst 0, 1) := by decide +kernel
theorem dX11_mind_71 : decode bX11_mind 71 = .ok (.goto 4, 3) := by decide +kernel
theorem dX11_mind_74 : decode bX11_mind 74 = .ok (.iconst 1, 1) := by decide +kernel
theorem dX11_mind_75 : decode bX11_mind 75 = .ok (.ireturn, 1) := by decide +kernel
set_option maxRecDepth 20000 in
set_option maxHeartbeats 4000000 in
theorem cX11_mind {l : Launch} {k : Kx} {F : Nat} {a1 : Int32} {a2 : Int32} {μ μ' : Mm} {r : Int32} (hk : kok k) (e_this : kex k 11 0) (hf : fX11_mind F a1 a2 μ = some (r, μ')) : MM l k 2 yX11_mind bX11_mind 5 (some .int) [.ref (kad k 11 0), .int a1, .int a2] μ (some (.int r)) μ' := by
  refine MM.of (lv := [(0, .ref (kad k 11 0)), (1, .int a1), (2, .int a2)]) (plainFor_of_name (by decide)) hk (Nat.le_of_ble_eq_true rfl) rfl (fun z hl hx => ?_)
  subst hl
  have hx : Ok z k bX11_mind 5 "RopeDance" (some .int) 2 (0, 0) := hx
  unfold fX11_mind at hf
  refine r_aloadn hx 0 rfl rfl dX11_mind_0 ?_
  refine r_iloadn hx 1 rfl rfl dX11_mind_1 ?_
  obtain ⟨r3, μ2, c1, hf⟩ := f_bd2 hf
  refine r_callV hx (As := [.int a1]) (rest := []) (st1 := [rp k 3 r3]) (c := 11) (i := 0) (TT := T11) (N := 12) MK_X11_figureAt rfl wi_X11_figureAt we_X11_figureAt wm_X11_128 ⟨Nat.le_refl _, Nat.le_refl _⟩ (cX11_figureAt hk e_this c1) e_this (Nat.le_of_ble_eq_true rfl) rfl rfl (Nat.le_of_ble_eq_true rfl) rfl dX11_mind_2 (fun hb4 => ?_)
  cases r3 with
  | none =>
    have hf := f_on hf
    refine r_astorenN (lv' := [(3, .null), (0, .ref (kad k 11 0)), (1, .int a1), (2, .int a2)]) hx rfl (Nat.le_of_ble_eq_true rfl) rfl dX11_mind_5 ?_
    refine r_aloadn hx 1 rfl rfl dX11_mind_6 ?_
    refine r_iloadn hx 3 rfl rfl dX11_mind_7 ?_
    obtain ⟨r9, μ8, c7, hf⟩ := f_bd2 hf
    refine r_callV hx (As := [.int a2]) (rest := []) (st1 := [rp k 3 r9]) (c := 11) (i := 0) (TT := T11) (N := 12) MK_X11_figureAt rfl wi_X11_figureAt we_X11_figureAt wm_X11_128 ⟨Nat.le_refl _, Nat.le_refl _⟩ (cX11_figureAt hk e_this c7) e_this (Nat.le_of_ble_eq_true rfl) rfl rfl (Nat.le_of_ble_eq_true rfl) rfl dX11_mind_8 (fun hb10 => ?_)
    cases r9 with
    | none =>
      have hf := f_on hf
      refine r_astoreN (lv' := [(4, .null), (3, .null), (0, .ref (kad k 11 0)), (1, .int a1), (2, .int a2)]) hx (Nat.le_of_ble_eq_true rfl) rfl dX11_mind_11 ?_
      refine r_aloadnN hx 1 rfl rfl dX11_mind_13 ?_
      refine r_nullN (tgt := 22) hx rfl dX11_mind_14 ?_
      refine r_iconst hx ci_m1 dX11_mind_22 ?_
      exact r_iret hx hf dX11_mind_23
    | some i11 =>
      have hf := f_os hf
      have e12 : kex k 3 i11 := xX11_figureAt hk e_this c7
      refine r_astore (lv' := [(4, .ref (kad k 3 i11)), (3, .null), (0, .ref (kad k 11 0)), (1, .int a1), (2, .int a2)]) hx (Nat.le_of_ble_eq_true rfl) rfl dX11_mind_11 ?_
      refine r_aloadnN hx 1 rfl rfl dX11_mind_13 ?_
      refine r_nullN (tgt := 22) hx rfl dX11_mind_14 ?_
      refine r_iconst hx ci_m1 dX11_mind_22 ?_
      exact r_iret hx hf dX11_mind_23
  | some i5 =>
    have hf := f_os hf
    have e6 : kex k 3 i5 := xX11_figureAt hk e_this c1
    refine r_astoren (lv' := [(3, .ref (kad k 3 i5)), (0, .ref (kad k 11 0)), (1, .int a1), (2, .int a2)]) hx rfl (Nat.le_of_ble_eq_true rfl) rfl dX11_mind_5 ?_
    refine r_aloadn hx 1 rfl rfl dX11_mind_6 ?_
    refine r_iloadn hx 3 rfl rfl dX11_mind_7 ?_
    obtain ⟨r15, μ14, c13, hf⟩ := f_bd2 hf
    refine r_callV hx (As := [.int a2]) (rest := []) (st1 := [rp k 3 r15]) (c := 11) (i := 0) (TT := T11) (N := 12) MK_X11_figureAt rfl wi_X11_figureAt we_X11_figureAt wm_X11_128 ⟨Nat.le_refl _, Nat.le_refl _⟩ (cX11_figureAt hk e_this c13) e_this (Nat.le_of_ble_eq_true rfl) rfl rfl (Nat.le_of_ble_eq_true rfl) rfl dX11_mind_8 (fun hb16 => ?_)
    cases r15 with
    | none =>
      have hf := f_on hf
      refine r_astoreN (lv' := [(4, .null), (3, .ref (kad k 3 i5)), (0, .ref (kad k 11 0)), (1, .int a1), (2, .int a2)]) hx (Nat.le_of_ble_eq_true rfl) rfl dX11_mind_11 ?_
      refine r_aloadn hx 1 rfl rfl dX11_mind_13 ?_
      refine r_nullS hx dX11_mind_14 ?_
      refine r_aloadN hx 0 rfl dX11_mind_17 ?_
      refine r_nonnullN hx dX11_mind_19 ?_
      refine r_iconst hx ci_m1 dX11_mind_22 ?_
      exact r_iret hx hf dX11_mind_23
    | some i17 =>
      have hf := f_os hf
      have e18 : kex k 3 i17 := xX11_figureAt hk e_this c13
      refine r_astore (lv' := [(4, .ref (kad k 3 i17)), (3, .ref (kad k 3 i5)), (0, .ref (kad k 11 0)), (1, .int a1), (2, .int a2)]) hx (Nat.le_of_ble_eq_true rfl) rfl dX11_mind_11 ?_
      refine r_aloadn hx 1 rfl rfl dX11_mind_13 ?_
      refine r_nullS hx dX11_mind_14 ?_
      refine r_aload hx 0 rfl dX11_mind_17 ?_
      refine r_nonnullS (tgt := 24) hx rfl dX11_mind_19 ?_
      refine r_aloadn hx 2 rfl rfl dX11_mind_24 ?_
      refine r_getR hx (c' := 6) (i' := 18) FK11_8 e_this rfl wf_X11_66 dX11_mind_25 (fun e19 => ?_)
      refine r_aloadn hx 1 rfl rfl dX11_mind_28 ?_
      refine r_getR hx (c' := 6) (i' := i5) FK3_1 e6 rfl wf_X11_136 dX11_mind_29 (fun e20 => ?_)
      refine r_aload hx 0 rfl dX11_mind_32 ?_
      refine r_getR hx (c' := 6) (i' := i17) FK3_1 e18 rfl wf_X11_136 dX11_mind_34 (fun e21 => ?_)
      obtain ⟨μ23, c22, hf⟩ := f_bd1 hf
      refine r_callV hx (As := [.ref (kad k 6 i5), .ref (kad k 6 i17)]) (rest := []) (st1 := []) (c := 6) (i := 18) (TT := T6) (N := 4) MK_X6_become rfl wi_X6_become we_X6_become wm_X11_244 ⟨Nat.le_refl _, Nat.le_refl _⟩ (cX6_become hk e19 e20 e21 c22) e19 (Nat.le_of_ble_eq_true rfl) rfl rfl (Nat.le_of_ble_eq_true rfl) rfl dX11_mind_37 (fun hb24 => ?_)
      refine r_aloadn hx 2 rfl rfl dX11_mind_40 ?_
      refine r_getR hx (c' := 6) (i' := 19) FK11_9 e_this rfl wf_X11_70 dX11_mind_41 (fun e25 => ?_)
      refine r_aload hx 0 rfl dX11_mind_44 ?_
      refine r_getR hx (c' := 6) (i' := i17) FK3_1 e18 rfl wf_X11_136 dX11_mind_46 (fun e26 => ?_)
      refine r_aloadn hx 1 rfl rfl dX11_mind_49 ?_
      refine r_getR hx (c' := 6) (i' := i5) FK3_1 e6 rfl wf_X11_136 dX11_mind_50 (fun e27 => ?_)
      obtain ⟨μ29, c28, hf⟩ := f_bd1 hf
      refine r_callV hx (As := [.ref (kad k 6 i17), .ref (kad k 6 i5)]) (rest := []) (st1 := []) (c := 6) (i := 19) (TT := T6) (N := 4) MK_X6_become rfl wi_X6_become we_X6_become wm_X11_244 ⟨Nat.le_refl _, Nat.le_refl _⟩ (cX6_become hk e25 e26 e27 c28) e25 (Nat.le_of_ble_eq_true rfl) rfl rfl (Nat.le_of_ble_eq_true rfl) rfl dX11_mind_53 (fun hb30 => ?_)
      refine r_aloadn hx 2 rfl rfl dX11_mind_56 ?_
      refine r_getR hx (c' := 6) (i' := 18) FK11_8 e_this rfl wf_X11_66 dX11_mind_57 (fun e31 => ?_)
      refine r_aloadn hx 2 rfl rfl dX11_mind_60 ?_
      refine r_getR hx (c' := 6) (i' := 19) FK11_9 e_this rfl wf_X11_70 dX11_mind_61 (fun e32 => ?_)
      obtain ⟨r35, μ34, c33, hf⟩ := f_bd2 hf
      refine r_callV hx (As := [.ref (kad k 6 19)]) (rest := []) (st1 := [.int r35]) (c := 6) (i := 18) (TT := T6) (N := 4) MK_X6_isAsFractions rfl wi_X6_isAsFractions we_X6_isAsFractions wm_X11_252 ⟨Nat.le_refl _, Nat.le_refl _⟩ (cX6_isAsFractions hk e31 e32 c33) e31 (Nat.le_of_ble_eq_true rfl) rfl rfl (Nat.le_of_ble_eq_true rfl) rfl dX11_mind_64 (fun hb36 => ?_)
      refine r_ifeq (tgt := 74) hx rfl dX11_mind_67 (fun q37 => ?_) (fun q37 => ?_)
      · have hf := (f_ite hf).1 q37
        refine r_iconst hx ci_1 dX11_mind_74 ?_
        exact r_iret hx hf dX11_mind_75
      · have hf := (f_ite hf).2 q37
        refine r_iconst hx ci_0 dX11_mind_70 ?_
        refine r_goto (tgt := 75) hx rfl dX11_mind_71 ?_
        exact r_iret hx hf dX11_mind_75
theorem dX11_reverse_0 : decode bX11_reverse 0 = .ok (.aload_n 0, 1) := by decide +kernel
theorem dX11_reverse_1 : decode bX11_reverse 1 = .ok (.iload_n 1, 1) := by decide +kernel
theorem dX11_reverse_2 : decode bX11_reverse 2 = .ok (.invokevirtual 128, 3) := by decide +kernel
theorem dX11_reverse_5 : decode bX11_reverse 5 = .ok (.astore_n 2, 1) := by decide +kernel
theorem dX11_reverse_6 : decode bX11_reverse 6 = .ok (.aload_n 2, 1) := by decide +kernel
theorem dX11_reverse_7 : decode bX11_reverse 7 = .ok (.ifnonnull 5, 3) := by decide +kernel
theorem dX11_reverse_10 : decode bX11_reverse 10 = .ok (.iconst (-1), 1) := by decide +kernel
theorem dX11_reverse_11 : decode bX11_reverse 11 = .ok (.ireturn, 1) := by decide +kernel
theorem dX11_reverse_12 : decode bX11_reverse 12 = .ok (.iconst 0, 1) := by decide +kernel
theorem dX11_reverse_13 : decode bX11_reverse 13 = .ok (.istore_n 3, 1) := by decide +kernel
theorem dX11_reverse_14 : decode bX11_reverse 14 = .ok (.iload_n 3, 1) := by decide +kernel
theorem dX11_reverse_15 : decode bX11_reverse 15 = .ok (.aload_n 0, 1) := by decide +kernel
theorem dX11_reverse_16 : decode bX11_reverse 16 = .ok (.getfield 19, 3) := by decide +kernel
theorem dX11_reverse_19 : decode bX11_reverse 19 = .ok (.getfield 256, 3) := by decide +kernel
theorem dX11_reverse_22 : decode bX11_reverse 22 = .ok (.if_icmp .ge 44, 3) := by decide +kernel
theorem dX11_reverse_25 : decode bX11_reverse 25 = .ok (.aload_n 0, 1) := by decide +kernel
theorem dX11_reverse_26 : decode bX11_reverse 26 = .ok (.getfield 66, 3) := by decide +kernel
theorem dX11_reverse_29 : decode bX11_reverse 29 = .ok (.aload_n 2, 1) := by decide +kernel
theorem dX11_reverse_30 : decode bX11_reverse 30 = .ok (.getfield 136, 3) := by decide +kernel
theorem dX11_reverse_33 : decode bX11_reverse 33 = .ok (.aload_n 0, 1) := by decide +kernel
theorem dX11_reverse_34 : decode bX11_reverse 34 = .ok (.getfield 19, 3) := by decide +kernel
theorem dX11_reverse_37 : decode bX11_reverse 37 = .ok (.getfield 259, 3) := by decide +kernel
theorem dX11_reverse_40 : decode bX11_reverse 40 = .ok (.iload_n 3, 1) := by decide +kernel
theorem dX11_reverse_41 : decode bX11_reverse 41 = .ok (.aaload, 1) := by decide +kernel
theorem dX11_reverse_42 : decode bX11_reverse 42 = .ok (.getfield 136, 3) := by decide +kernel
theorem dX11_reverse_45 : decode bX11_reverse 45 = .ok (.invokevirtual 244, 3) := by decide +kernel
theorem dX11_reverse_48 : decode bX11_reverse 48 = .ok (.aload_n 0, 1) := by decide +kernel
theorem dX11_reverse_49 : decode bX11_reverse 49 = .ok (.getfield 66, 3) := by decide +kernel
theorem dX11_reverse_52 : decode bX11_reverse 52 = .ok (.invokevirtual 226, 3) := by decide +kernel
theorem dX11_reverse_55 : decode bX11_reverse 55 = .ok (.ifCond .eq 5, 3) := by decide +kernel
theorem dX11_reverse_58 : decode bX11_reverse 58 = .ok (.iload_n 3, 1) := by decide +kernel
theorem dX11_reverse_59 : decode bX11_reverse 59 = .ok (.ireturn, 1) := by decide +kernel
theorem dX11_reverse_60 : decode bX11_reverse 60 = .ok (.iinc 3 1, 3) := by decide +kernel
theorem dX11_reverse_63 : decode bX11_reverse 63 = .ok (.goto (-49), 3) := by decide +kernel
theorem dX11_reverse_66 : decode bX11_reverse 66 = .ok (.bipush (-2), 2) := by decide +kernel
theorem dX11_reverse_68 : decode bX11_reverse 68 = .ok (.ireturn, 1) := by decide +kernel
set_option maxRecDepth 20000 in
set_option maxHeartbeats 4000000 in
theorem cX11_reverse {l : Launch} {k : Kx} {F : Nat} {a1 : Int32} {μ μ' : Mm} {r : Int32} (hk : kok k) (e_this : kex k 11 0) (hf : fX11_reverse F a1 μ = some (r, μ')) : MM l k 1 yX11_reverse bX11_reverse 4 (some .int) [.ref (kad k 11 0), .int a1] μ (some (.int r)) μ' := by
  refine MM.of (lv := [(0, .ref (kad k 11 0)), (1, .int a1)]) (plainFor_of_name (by decide)) hk (Nat.le_of_ble_eq_true rfl) rfl (fun z hl hx => ?_)
  subst hl
  have hx : Ok z k bX11_reverse 4 "RopeDance" (some .int) 1 (0, 0) := hx
  have L14 : ∀ (n : Nat) (v2 : Nat) (v3 : Int32) (μ : Mm) (e_v0 : kex k 11 0) (e_v2 : kex k 3 v2), fX11_reverse_L14 F n v2 v3 μ = some (r, μ') → Gw z k 4 (k, (0, 0), (some .int), (some (.int r)), μ') (0, 0) 14 μ [(0, .ref (kad k 11 0)), (2, .ref (kad k 3 v2)), (3, .int v3)] [] := by
    intro  n
    induction n with
    | zero =>
      intro v2 v3 μ e_v0 e_v2 hf
      exact f_no (show (none : Option (Int32 × Mm)) = _ from hf)
    | succ n ih =>
      intro v2 v3 μ e_v0 e_v2 hf
      rw [fX11_reverse_L14] at hf
      refine r_iloadn hx 2 rfl rfl dX11_reverse_14 ?_
      refine r_aloadn hx 0 rfl rfl dX11_reverse_15 ?_
      refine r_getT hx FK11_2 e_v0 (by decide) wf_X11_19 dX11_reverse_16 (fun e7 => ?_)
      refine r_getI hx FK8_1 e7 wf_X11_256 dX11_reverse_19 ?_
      refine r_icge (tgt := 66) hx rfl dX11_reverse_22 (fun q8 => ?_) (fun q8 => ?_)
      · have hf := (f_ite hf).1 q8
        refine r_bipush hx cb_m2 dX11_reverse_66 ?_
        exact r_iret hx hf dX11_reverse_68
      · have hf := (f_ite hf).2 q8
        refine r_aloadn hx 0 rfl rfl dX11_reverse_25 ?_
        refine r_getR hx (c' := 6) (i' := 18) FK11_8 e_v0 rfl wf_X11_66 dX11_reverse_26 (fun e9 => ?_)
        refine r_aloadn hx 1 rfl rfl dX11_reverse_29 ?_
        refine r_getR hx (c' := 6) (i' := v2) FK3_1 e_v2 rfl wf_X11_136 dX11_reverse_30 (fun e10 => ?_)
        refine r_aloadn hx 0 rfl rfl dX11_reverse_33 ?_
        refine r_getT hx FK11_2 e_v0 (by decide) wf_X11_19 dX11_reverse_34 (fun e11 => ?_)
        refine r_getR hx (c' := 35) (i' := (tx (gi μ 11 0 2))) FK8_4 e11 rfl wf_X11_259 dX11_reverse_37 (fun e12 => ?_)
        refine r_iloadn hx 2 rfl rfl dX11_reverse_40 ?_
        obtain ⟨b13, hf⟩ := f_chk hf
        refine r_aald hx (c' := 3) (i' := (9 * (tx (gi μ 11 0 2)) + 4 + v3.toNatClampNeg)) (by decide) (by decide) (by decide) e12 b13 rfl rfl dX11_reverse_41 (fun e14 => ?_)
        refine r_getR hx (c' := 6) (i' := (9 * (tx (gi μ 11 0 2)) + 4 + v3.toNatClampNeg)) FK3_1 e14 rfl wf_X11_136 dX11_reverse_42 (fun e15 => ?_)
        obtain ⟨μ17, c16, hf⟩ := f_bd1 hf
        refine r_callV hx (As := [.ref (kad k 6 v2), .ref (kad k 6 (9 * (tx (gi μ 11 0 2)) + 4 + v3.toNatClampNeg))]) (rest := []) (st1 := []) (c := 6) (i := 18) (TT := T6) (N := 4) MK_X6_become rfl wi_X6_become we_X6_become wm_X11_244 ⟨Nat.le_refl _, Nat.le_refl _⟩ (cX6_become hk e9 e10 e15 c16) e9 (Nat.le_of_ble_eq_true rfl) rfl rfl (Nat.le_of_ble_eq_true rfl) rfl dX11_reverse_45 (fun hb18 => ?_)
        refine r_aloadn hx 0 rfl rfl dX11_reverse_48 ?_
        refine r_getR hx (c' := 6) (i' := 18) FK11_8 e_v0 rfl wf_X11_66 dX11_reverse_49 (fun e19 => ?_)
        obtain ⟨r22, μ21, c20, hf⟩ := f_bd2 hf
        refine r_callV hx (As := []) (rest := []) (st1 := [.int r22]) (c := 6) (i := 18) (TT := T6) (N := 4) MK_X6_isNothing rfl wi_X6_isNothing we_X6_isNothing wm_X11_226 ⟨Nat.le_refl _, Nat.le_refl _⟩ (cX6_isNothing hk e19 c20) e19 (Nat.le_of_ble_eq_true rfl) rfl rfl (Nat.le_of_ble_eq_true rfl) rfl dX11_reverse_52 (fun hb23 => ?_)
        refine r_ifeq (tgt := 60) hx rfl dX11_reverse_55 (fun q24 => ?_) (fun q24 => ?_)
        · have hf := (f_ite hf).1 q24
          refine r_iinc (lv' := [(3, .int (v3 + 1)), (0, .ref (kad k 11 0)), (2, .ref (kad k 3 v2))]) hx 2 rfl (congrArg (fun y => v3 + y) ci_1) (Nat.le_of_ble_eq_true rfl) rfl dX11_reverse_60 ?_
          refine r_goto (tgt := 14) hx rfl dX11_reverse_63 ?_
          refine r_sub [1, 2, 0] rfl ?_
          exact ih v2 (v3 + 1) μ21 e_v0 e_v2 hf
        · have hf := (f_ite hf).2 q24
          refine r_iloadn hx 2 rfl rfl dX11_reverse_58 ?_
          exact r_iret hx hf dX11_reverse_59
  unfold fX11_reverse at hf
  refine r_aloadn hx 0 rfl rfl dX11_reverse_0 ?_
  refine r_iloadn hx 1 rfl rfl dX11_reverse_1 ?_
  obtain ⟨r3, μ2, c1, hf⟩ := f_bd2 hf
  refine r_callV hx (As := [.int a1]) (rest := []) (st1 := [rp k 3 r3]) (c := 11) (i := 0) (TT := T11) (N := 12) MK_X11_figureAt rfl wi_X11_figureAt we_X11_figureAt wm_X11_128 ⟨Nat.le_refl _, Nat.le_refl _⟩ (cX11_figureAt hk e_this c1) e_this (Nat.le_of_ble_eq_true rfl) rfl rfl (Nat.le_of_ble_eq_true rfl) rfl dX11_reverse_2 (fun hb4 => ?_)
  cases r3 with
  | none =>
    have hf := f_on hf
    refine r_astorenN (lv' := [(2, .null), (0, .ref (kad k 11 0)), (1, .int a1)]) hx rfl (Nat.le_of_ble_eq_true rfl) rfl dX11_reverse_5 ?_
    refine r_aloadnN hx 0 rfl rfl dX11_reverse_6 ?_
    refine r_nonnullN hx dX11_reverse_7 ?_
    refine r_iconst hx ci_m1 dX11_reverse_10 ?_
    exact r_iret hx hf dX11_reverse_11
  | some i5 =>
    have hf := f_os hf
    have e6 : kex k 3 i5 := xX11_figureAt hk e_this c1
    refine r_astoren (lv' := [(2, .ref (kad k 3 i5)), (0, .ref (kad k 11 0)), (1, .int a1)]) hx rfl (Nat.le_of_ble_eq_true rfl) rfl dX11_reverse_5 ?_
    refine r_aloadn hx 0 rfl rfl dX11_reverse_6 ?_
    refine r_nonnullS (tgt := 12) hx rfl dX11_reverse_7 ?_
    refine r_iconst hx ci_0 dX11_reverse_12 ?_
    refine r_istoren (lv' := [(3, .int 0), (2, .ref (kad k 3 i5)), (0, .ref (kad k 11 0)), (1, .int a1)]) hx rfl (Nat.le_of_ble_eq_true rfl) rfl dX11_reverse_13 ?_
    refine r_sub [2, 1, 0] rfl ?_
    exact L14 F i5 0 μ2 e_this e6 hf
theorem dX11_hands_0 : decode bX11_hands 0 = .ok (.aload_n 0, 1) := by decide +kernel
theorem dX11_hands_1 : decode bX11_hands 1 = .ok (.iload_n 1, 1) := by decide +kernel
theorem dX11_hands_2 : decode bX11_hands 2 = .ok (.invokevirtual 128, 3) := by decide +kernel
theorem dX11_hands_5 : decode bX11_hands 5 = .ok (.astore_n 3, 1) := by decide +kernel
theorem dX11_hands_6 : decode bX11_hands 6 = .ok (.aload_n 3, 1) := by decide +kernel
theorem dX11_hands_7 : decode bX11_hands 7 = .ok (.ifnull 12, 3) := by decide +kernel
theorem dX11_hands_10 : decode bX11_hands 10 = .ok (.iload_n 2, 1) := by decide +kernel
theorem dX11_hands_11 : decode bX11_hands 11 = .ok (.ifCond .lt 8, 3) := by decide +kernel
theorem dX11_hands_14 : decode bX11_hands 14 = .ok (.iload_n 2, 1) := by decide +kernel
theorem dX11_hands_15 : decode bX11_hands 15 = .ok (.iconst 2, 1) := by decide +kernel
theorem dX11_hands_16 : decode bX11_hands 16 = .ok (.if_icmp .le 7, 3) := by decide +kernel
theorem dX11_hands_19 : decode bX11_hands 19 = .ok (.iconst (-1), 1) := by decide +kernel
theorem dX11_hands_20 : decode bX11_hands 20 = .ok (.goto 11, 3) := by decide +kernel
theorem dX11_hands_23 : decode bX11_hands 23 = .ok (.aload_n 3, 1) := by decide +kernel
theorem dX11_hands_24 : decode bX11_hands 24 = .ok (.getfield 136, 3) := by decide +kernel
theorem dX11_hands_27 : decode bX11_hands 27 = .ok (.iload_n 2, 1) := by decide +kernel
theorem dX11_hands_28 : decode bX11_hands 28 = .ok (.invokevirtual 263, 3) := by decide +kernel
theorem dX11_hands_31 : decode bX11_hands 31 = .ok (.ireturn, 1) := by decide +kernel
set_option maxRecDepth 20000 in
set_option maxHeartbeats 4000000 in
theorem cX11_hands {l : Launch} {k : Kx} {F : Nat} {a1 : Int32} {a2 : Int32} {μ μ' : Mm} {r : Int32} (hk : kok k) (e_this : kex k 11 0) (hf : fX11_hands F a1 a2 μ = some (r, μ')) : MM l k 2 yX11_hands bX11_hands 4 (some .int) [.ref (kad k 11 0), .int a1, .int a2] μ (some (.int r)) μ' := by
  refine MM.of (lv := [(0, .ref (kad k 11 0)), (1, .int a1), (2, .int a2)]) (plainFor_of_name (by decide)) hk (Nat.le_of_ble_eq_true rfl) rfl (fun z hl hx => ?_)
  subst hl
  have hx : Ok z k bX11_hands 4 "RopeDance" (some .int) 2 (0, 0) := hx
  have L19 : ∀ (μ : Mm), fX11_hands_L19 F  μ = some (r, μ') → Gw z k 4 (k, (0, 0), (some .int), (some (.int r)), μ') (0, 0) 19 μ [] [] := by
    intro  μ hf
    unfold fX11_hands_L19 at hf
    refine r_iconst hx ci_m1 dX11_hands_19 ?_
    refine r_goto (tgt := 31) hx rfl dX11_hands_20 ?_
    exact r_iret hx hf dX11_hands_31
  unfold fX11_hands at hf
  refine r_aloadn hx 0 rfl rfl dX11_hands_0 ?_
  refine r_iloadn hx 1 rfl rfl dX11_hands_1 ?_
  obtain ⟨r3, μ2, c1, hf⟩ := f_bd2 hf
  refine r_callV hx (As := [.int a1]) (rest := []) (st1 := [rp k 3 r3]) (c := 11) (i := 0) (TT := T11) (N := 12) MK_X11_figureAt rfl wi_X11_figureAt we_X11_figureAt wm_X11_128 ⟨Nat.le_refl _, Nat.le_refl _⟩ (cX11_figureAt hk e_this c1) e_this (Nat.le_of_ble_eq_true rfl) rfl rfl (Nat.le_of_ble_eq_true rfl) rfl dX11_hands_2 (fun hb4 => ?_)
  cases r3 with
  | none =>
    have hf := f_on hf
    refine r_astorenN (lv' := [(3, .null), (0, .ref (kad k 11 0)), (1, .int a1), (2, .int a2)]) hx rfl (Nat.le_of_ble_eq_true rfl) rfl dX11_hands_5 ?_
    refine r_aloadnN hx 0 rfl rfl dX11_hands_6 ?_
    refine r_nullN (tgt := 19) hx rfl dX11_hands_7 ?_
    refine r_sub [] rfl ?_
    exact L19   μ2 hf
  | some i5 =>
    have hf := f_os hf
    have e6 : kex k 3 i5 := xX11_figureAt hk e_this c1
    refine r_astoren (lv' := [(3, .ref (kad k 3 i5)), (0, .ref (kad k 11 0)), (1, .int a1), (2, .int a2)]) hx rfl (Nat.le_of_ble_eq_true rfl) rfl dX11_hands_5 ?_
    refine r_aloadn hx 0 rfl rfl dX11_hands_6 ?_
    refine r_nullS hx dX11_hands_7 ?_
    refine r_iloadn hx 3 rfl rfl dX11_hands_10 ?_
    refine r_iflt (tgt := 19) hx rfl dX11_hands_11 (fun q7 => ?_) (fun q7 => ?_)
    · have hf := (f_ite hf).1 q7
      refine r_sub [] rfl ?_
      exact L19   μ2 hf
    · have hf := (f_ite hf).2 q7
      refine r_iloadn hx 3 rfl rfl dX11_hands_14 ?_
      refine r_iconst hx ci_2 dX11_hands_15 ?_
      refine r_icle (tgt := 23) hx rfl dX11_hands_16 (fun q8 => ?_) (fun q8 => ?_)
      · have hf := (f_ite hf).1 q8
        refine r_aloadn hx 0 rfl rfl dX11_hands_23 ?_
        refine r_getR hx (c' := 6) (i' := i5) FK3_1 e6 rfl wf_X11_136 dX11_hands_24 (fun e9 => ?_)
        refine r_iloadn hx 3 rfl rfl dX11_hands_27 ?_
        obtain ⟨r12, μ11, c10, hf⟩ := f_bd2 hf
        refine r_callV hx (As := [.int a2]) (rest := []) (st1 := [.int r12]) (c := 6) (i := i5) (TT := T6) (N := 4) MK_X6_endsOf rfl wi_X6_endsOf we_X6_endsOf wm_X11_263 ⟨Nat.le_refl _, Nat.le_refl _⟩ (cX6_endsOf hk e9 c10) e9 (Nat.le_of_ble_eq_true rfl) rfl rfl (Nat.le_of_ble_eq_true rfl) rfl dX11_hands_28 (fun hb13 => ?_)
        exact r_iret hx hf dX11_hands_31
      · have hf := (f_ite hf).2 q8
        refine r_sub [] rfl ?_
        exact L19   μ2 hf
theorem dX11_tryMinutes_0 : decode bX11_tryMinutes 0 = .ok (.aload_n 0, 1) := by decide +kernel
theorem dX11_tryMinutes_1 : decode bX11_tryMinutes 1 = .ok (.getfield 59, 3) := by decide +kernel
theorem dX11_tryMinutes_4 : decode bX11_tryMinutes 4 = .ok (.aload_n 1, 1) := by decide +kernel
theorem dX11_tryMinutes_5 : decode bX11_tryMinutes 5 = .ok (.invokevirtual 362, 3) := by decide +kernel
theorem dX11_tryMinutes_8 : decode bX11_tryMinutes 8 = .ok (.iconst 0, 1) := by decide +kernel
theorem dX11_tryMinutes_9 : decode bX11_tryMinutes 9 = .ok (.istore 5, 2) := by decide +kernel
theorem dX11_tryMinutes_11 : decode bX11_tryMinutes 11 = .ok (.iload 5, 2) := by decide +kernel
theorem dX11_tryMinutes_13 : decode bX11_tryMinutes 13 = .ok (.iload_n 3, 1) := by decide +kernel
theorem dX11_tryMinutes_14 : decode bX11_tryMinutes 14 = .ok (.if_icmp .ge 33, 3) := by decide +kernel
theorem dX11_tryMinutes_17 : decode bX11_tryMinutes 17 = .ok (.aload_n 0, 1) := by decide +kernel
theorem dX11_tryMinutes_18 : decode bX11_tryMinutes 18 = .ok (.getfield 19, 3) := by decide +kernel
theorem dX11_tryMinutes_21 : decode bX11_tryMinutes 21 = .ok (.aload_n 0, 1) := by decide +kernel
theorem dX11_tryMinutes_22 : decode bX11_tryMinutes 22 = .ok (.getfield 59, 3) := by decide +kernel
theorem dX11_tryMinutes_25 : decode bX11_tryMinutes 25 = .ok (.iload_n 2, 1) := by decide +kernel
theorem dX11_tryMinutes_26 : decode bX11_tryMinutes 26 = .ok (.aload_n 0, 1) := by decide +kernel
theorem dX11_tryMinutes_27 : decode bX11_tryMinutes 27 = .ok (.getfield 38, 3) := by decide +kernel
theorem dX11_tryMinutes_30 : decode bX11_tryMinutes 30 = .ok (.getfield 118, 3) := by decide +kernel
theorem dX11_tryMinutes_33 : decode bX11_tryMinutes 33 = .ok (.iload 5, 2) := by decide +kernel
theorem dX11_tryMinutes_35 : decode bX11_tryMinutes 35 = .ok (.iadd, 1) := by decide +kernel
theorem dX11_tryMinutes_36 : decode bX11_tryMinutes 36 = .ok (.iload 4, 2) := by decide +kernel
theorem dX11_tryMinutes_38 : decode bX11_tryMinutes 38 = .ok (.invokevirtual 365, 3) := by decide +kernel
theorem dX11_tryMinutes_41 : decode bX11_tryMinutes 41 = .ok (.iinc 5 1, 3) := by decide +kernel
theorem dX11_tryMinutes_44 : decode bX11_tryMinutes 44 = .ok (.goto (-33), 3) := by decide +kernel
theorem dX11_tryMinutes_47 : decode bX11_tryMinutes 47 = .ok (.return_, 1) := by decide +kernel
set_option maxRecDepth 20000 in
set_option maxHeartbeats 4000000 in
theorem cX11_tryMinutes {l : Launch} {k : Kx} {F : Nat} {a1 : Nat} {a2 : Int32} {a3 : Int32} {a4 : Int32} {μ μ' : Mm} (hk : kok k) (e_this : kex k 11 0) (e_a1 : kex k 5 a1) (hf : fX11_tryMinutes F a1 a2 a3 a4 μ = some μ') : MM l k 6 yX11_tryMinutes bX11_tryMinutes 6 none [.ref (kad k 11 0), .ref (kad k 5 a1), .int a2, .int a3, .int a4] μ none μ' := by
  refine MM.of (lv := [(0, .ref (kad k 11 0)), (1, .ref (kad k 5 a1)), (2, .int a2), (3, .int a3), (4, .int a4)]) (plainFor_of_name (by decide)) hk (Nat.le_of_ble_eq_true rfl) rfl (fun z hl hx => ?_)
  subst hl
  have hx : Ok z k bX11_tryMinutes 6 "RopeDance" none 6 (0, 0) := hx
  have L11 : ∀ (n : Nat) (v2 : Int32) (v3 : Int32) (v4 : Int32) (v5 : Int32) (μ : Mm) (e_v0 : kex k 11 0), fX11_tryMinutes_L11 F n v2 v3 v4 v5 μ = some μ' → Gw z k 6 (k, (0, 0), none, none, μ') (0, 0) 11 μ [(0, .ref (kad k 11 0)), (2, .int v2), (3, .int v3), (4, .int v4), (5, .int v5)] [] := by
    intro  n
    induction n with
    | zero =>
      intro v2 v3 v4 v5 μ e_v0 hf
      exact f_no (show (none : Option (Mm)) = _ from hf)
    | succ n ih =>
      intro v2 v3 v4 v5 μ e_v0 hf
      rw [fX11_tryMinutes_L11] at hf
      refine r_iload hx 4 rfl dX11_tryMinutes_11 ?_
      refine r_iloadn hx 2 rfl rfl dX11_tryMinutes_13 ?_
      refine r_icge (tgt := 47) hx rfl dX11_tryMinutes_14 (fun q5 => ?_) (fun q5 => ?_)
      · have hf := (f_ite hf).1 q5
        exact r_vret hx hf dX11_tryMinutes_47
      · have hf := (f_ite hf).2 q5
        refine r_aloadn hx 0 rfl rfl dX11_tryMinutes_17 ?_
        refine r_getT hx FK11_2 e_v0 (by decide) wf_X11_19 dX11_tryMinutes_18 (fun e6 => ?_)
        refine r_aloadn hx 0 rfl rfl dX11_tryMinutes_21 ?_
        refine r_getR hx (c' := 5) (i' := 4) FK11_7 e_v0 rfl wf_X11_59 dX11_tryMinutes_22 (fun e7 => ?_)
        refine r_iloadn hx 1 rfl rfl dX11_tryMinutes_25 ?_
        refine r_aloadn hx 0 rfl rfl dX11_tryMinutes_26 ?_
        refine r_getR hx (c' := 0) (i' := 0) FK11_4 e_v0 rfl wf_X11_38 dX11_tryMinutes_27 (fun e8 => ?_)
        refine r_getI hx FK0_1 e8 wf_X11_118 dX11_tryMinutes_30 ?_
        refine r_iload hx 4 rfl dX11_tryMinutes_33 ?_
        refine r_iadd hx dX11_tryMinutes_35 ?_
        refine r_iload hx 3 rfl dX11_tryMinutes_36 ?_
        obtain ⟨μ10, c9, hf⟩ := f_bd1 hf
        refine r_callV hx (As := [.ref (kad k 5 4), .int v2, .int ((gi μ 0 0 1) + v5), .int v4]) (rest := []) (st1 := []) (c := 8) (i := (tx (gi μ 11 0 2))) (TT := T8) (N := 13) MK_X8_passMinute rfl wi_X8_passMinute we_X8_passMinute wm_X11_365 ⟨Nat.le_refl _, Nat.le_refl _⟩ (cX8_passMinute hk e6 e7 c9) e6 (Nat.le_of_ble_eq_true rfl) rfl rfl (Nat.le_of_ble_eq_true rfl) rfl dX11_tryMinutes_38 (fun hb11 => ?_)
        refine r_iinc (lv' := [(5, .int (v5 + 1)), (0, .ref (kad k 11 0)), (2, .int v2), (3, .int v3), (4, .int v4)]) hx 4 rfl (congrArg (fun y => v5 + y) ci_1) (Nat.le_of_ble_eq_true rfl) rfl dX11_tryMinutes_41 ?_
        refine r_goto (tgt := 11) hx rfl dX11_tryMinutes_44 ?_
        refine r_sub [1, 2, 3, 4, 0] rfl ?_
        exact ih v2 v3 v4 (v5 + 1) μ10 e_v0 hf
  unfold fX11_tryMinutes at hf
  refine r_aloadn hx 0 rfl rfl dX11_tryMinutes_0 ?_
  refine r_getR hx (c' := 5) (i' := 4) FK11_7 e_this rfl wf_X11_59 dX11_tryMinutes_1 (fun e1 => ?_)
  refine r_aloadn hx 1 rfl rfl dX11_tryMinutes_4 ?_
  obtain ⟨μ3, c2, hf⟩ := f_bd1 hf
  refine r_callV hx (As := [.ref (kad k 5 a1)]) (rest := []) (st1 := []) (c := 5) (i := 4) (TT := T5) (N := 4) MK_X5_take rfl wi_X5_take we_X5_take wm_X11_362 ⟨Nat.le_refl _, Nat.le_refl _⟩ (cX5_take hk e1 e_a1 c2) e1 (Nat.le_of_ble_eq_true rfl) rfl rfl (Nat.le_of_ble_eq_true rfl) rfl dX11_tryMinutes_5 (fun hb4 => ?_)
  refine r_iconst hx ci_0 dX11_tryMinutes_8 ?_
  refine r_istore (lv' := [(5, .int 0), (0, .ref (kad k 11 0)), (1, .ref (kad k 5 a1)), (2, .int a2), (3, .int a3), (4, .int a4)]) hx (Nat.le_of_ble_eq_true rfl) rfl dX11_tryMinutes_9 ?_
  refine r_sub [1, 3, 4, 5, 0] rfl ?_
  exact L11 F a2 a3 a4 0 μ3 e_this hf
theorem dX11_then_0 : decode bX11_then 0 = .ok (.aload_n 0, 1) := by decide +kernel
theorem dX11_then_1 : decode bX11_then 1 = .ok (.iload_n 1, 1) := by decide +kernel
theorem dX11_then_2 : decode bX11_then 2 = .ok (.invokevirtual 98, 3) := by decide +kernel
theorem dX11_then_5 : decode bX11_then 5 = .ok (.astore 4, 2) := by decide +kernel
theorem dX11_then_7 : decode bX11_then 7 = .ok (.aload 4, 2) := by decide +kernel
theorem dX11_then_9 : decode bX11_then 9 = .ok (.ifnull 22, 3) := by decide +kernel
theorem dX11_then_12 : decode bX11_then 12 = .ok (.iload_n 2, 1) := by decide +kernel
theorem dX11_then_13 : decode bX11_then 13 = .ok (.ifCond .lt 18, 3) := by decide +kernel
theorem dX11_then_16 : decode bX11_then 16 = .ok (.iload_n 2, 1) := by decide +kernel
theorem dX11_then_17 : decode bX11_then 17 = .ok (.bipush 60, 2) := by decide +kernel
theorem dX11_then_19 : decode bX11_then 19 = .ok (.if_icmp .gt 12, 3) := by decide +kernel
theorem dX11_then_22 : decode bX11_then 22 = .ok (.iload_n 3, 1) := by decide +kernel
theorem dX11_then_23 : decode bX11_then 23 = .ok (.ifCond .lt 8, 3) := by decide +kernel
theorem dX11_then_26 : decode bX11_then 26 = .ok (.iload_n 3, 1) := by decide +kernel
theorem dX11_then_27 : decode bX11_then 27 = .ok (.iconst 2, 1) := by decide +kernel
theorem dX11_then_28 : decode bX11_then 28 = .ok (.if_icmp .le 7, 3) := by decide +kernel
theorem dX11_then_31 : decode bX11_then 31 = .ok (.sipush (-1000), 3) := by decide +kernel
theorem dX11_then_34 : decode bX11_then 34 = .ok (.ireturn, 1) := by decide +kernel
theorem dX11_then_35 : decode bX11_then 35 = .ok (.aload_n 0, 1) := by decide +kernel
theorem dX11_then_36 : decode bX11_then 36 = .ok (.aload 4, 2) := by decide +kernel
theorem dX11_then_38 : decode bX11_then 38 = .ok (.iload_n 1, 1) := by decide +kernel
theorem dX11_then_39 : decode bX11_then 39 = .ok (.iload_n 2, 1) := by decide +kernel
theorem dX11_then_40 : decode bX11_then 40 = .ok (.aload_n 0, 1) := by decide +kernel
theorem dX11_then_41 : decode bX11_then 41 = .ok (.getfield 19, 3) := by decide +kernel
theorem dX11_then_44 : decode bX11_then 44 = .ok (.getfield 266, 3) := by decide +kernel
theorem dX11_then_47 : decode bX11_then 47 = .ok (.invokevirtual 269, 3) := by decide +kernel
theorem dX11_then_50 : decode bX11_then 50 = .ok (.iload_n 3, 1) := by decide +kernel
theorem dX11_then_51 : decode bX11_then 51 = .ok (.lookupswitch 41 #[(0, 25), (1, 33)], 25) := by decide +kernel
theorem dX11_then_76 : decode bX11_then 76 = .ok (.aload_n 0, 1) := by decide +kernel
theorem dX11_then_77 : decode bX11_then 77 = .ok (.getfield 59, 3) := by decide +kernel
theorem dX11_then_80 : decode bX11_then 80 = .ok (.getfield 102, 3) := by decide +kernel
theorem dX11_then_83 : decode bX11_then 83 = .ok (.ireturn, 1) := by decide +kernel
theorem dX11_then_84 : decode bX11_then 84 = .ok (.aload_n 0, 1) := by decide +kernel
theorem dX11_then_85 : decode bX11_then 85 = .ok (.getfield 59, 3) := by decide +kernel
theorem dX11_then_88 : decode bX11_then 88 = .ok (.getfield 105, 3) := by decide +kernel
theorem dX11_then_91 : decode bX11_then 91 = .ok (.ireturn, 1) := by decide +kernel
theorem dX11_then_92 : decode bX11_then 92 = .ok (.aload_n 0, 1) := by decide +kernel
theorem dX11_then_93 : decode bX11_then 93 = .ok (.getfield 59, 3) := by decide +kernel
theorem dX11_then_96 : decode bX11_then 96 = .ok (.getfield 115, 3) := by decide +kernel
theorem dX11_then_99 : decode bX11_then 99 = .ok (.ireturn, 1) := by decide +kernel
set_option maxRecDepth 20000 in
set_option maxHeartbeats 4000000 in
theorem cX11_then {l : Launch} {k : Kx} {F : Nat} {a1 : Int32} {a2 : Int32} {a3 : Int32} {μ μ' : Mm} {r : Int32} (hk : kok k) (e_this : kex k 11 0) (hf : fX11_then F a1 a2 a3 μ = some (r, μ')) : MM l k 7 yX11_then bX11_then 5 (some .int) [.ref (kad k 11 0), .int a1, .int a2, .int a3] μ (some (.int r)) μ' := by
  refine MM.of (lv := [(0, .ref (kad k 11 0)), (1, .int a1), (2, .int a2), (3, .int a3)]) (plainFor_of_name (by decide)) hk (Nat.le_of_ble_eq_true rfl) rfl (fun z hl hx => ?_)
  subst hl
  have hx : Ok z k bX11_then 5 "RopeDance" (some .int) 7 (0, 0) := hx
  unfold fX11_then at hf
  refine r_aloadn hx 0 rfl rfl dX11_then_0 ?_
  refine r_iloadn hx 1 rfl rfl dX11_then_1 ?_
  obtain ⟨r3, μ2, c1, hf⟩ := f_bd2 hf
  refine r_callV hx (As := [.int a1]) (rest := []) (st1 := [rp k 5 r3]) (c := 11) (i := 0) (TT := T11) (N := 12) MK_X11_squareAt rfl wi_X11_squareAt we_X11_squareAt wm_X11_98 ⟨Nat.le_refl _, Nat.le_refl _⟩ (cX11_squareAt hk e_this c1) e_this (Nat.le_of_ble_eq_true rfl) rfl rfl (Nat.le_of_ble_eq_true rfl) rfl dX11_then_2 (fun hb4 => ?_)
  cases r3 with
  | none =>
    have hf := f_on hf
    refine r_astoreN (lv' := [(4, .null), (0, .ref (kad k 11 0)), (1, .int a1), (2, .int a2), (3, .int a3)]) hx (Nat.le_of_ble_eq_true rfl) rfl dX11_then_5 ?_
    refine r_aloadN hx 0 rfl dX11_then_7 ?_
    refine r_nullN (tgt := 31) hx rfl dX11_then_9 ?_
    refine r_sipush hx cs_m1000 dX11_then_31 ?_
    exact r_iret hx hf dX11_then_34
  | some i5 =>
    have hf := f_os hf
    have e6 : kex k 5 i5 := xX11_squareAt hk e_this c1
    refine r_astore (lv' := [(4, .ref (kad k 5 i5)), (0, .ref (kad k 11 0)), (1, .int a1), (2, .int a2), (3, .int a3)]) hx (Nat.le_of_ble_eq_true rfl) rfl dX11_then_5 ?_
    refine r_aload hx 0 rfl dX11_then_7 ?_
    refine r_nullS hx dX11_then_9 ?_
    refine r_iloadn hx 3 rfl rfl dX11_then_12 ?_
    refine r_iflt (tgt := 31) hx rfl dX11_then_13 (fun q7 => ?_) (fun q7 => ?_)
    · have hf := (f_ite hf).1 q7
      refine r_sipush hx cs_m1000 dX11_then_31 ?_
      exact r_iret hx hf dX11_then_34
    · have hf := (f_ite hf).2 q7
      refine r_iloadn hx 3 rfl rfl dX11_then_16 ?_
      refine r_bipush hx cb_60 dX11_then_17 ?_
      refine r_icgt (tgt := 31) hx rfl dX11_then_19 (fun q8 => ?_) (fun q8 => ?_)
      · have hf := (f_ite hf).1 q8
        refine r_sipush hx cs_m1000 dX11_then_31 ?_
        exact r_iret hx hf dX11_then_34
      · have hf := (f_ite hf).2 q8
        refine r_iloadn hx 4 rfl rfl dX11_then_22 ?_
        refine r_iflt (tgt := 31) hx rfl dX11_then_23 (fun q9 => ?_) (fun q9 => ?_)
        · have hf := (f_ite hf).1 q9
          refine r_sipush hx cs_m1000 dX11_then_31 ?_
          exact r_iret hx hf dX11_then_34
        · have hf := (f_ite hf).2 q9
          refine r_iloadn hx 4 rfl rfl dX11_then_26 ?_
          refine r_iconst hx ci_2 dX11_then_27 ?_
          refine r_icle (tgt := 35) hx rfl dX11_then_28 (fun q10 => ?_) (fun q10 => ?_)
          · have hf := (f_ite hf).1 q10
            refine r_aloadn hx 1 rfl rfl dX11_then_35 ?_
            refine r_aload hx 0 rfl dX11_then_36 ?_
            refine r_iloadn hx 2 rfl rfl dX11_then_38 ?_
            refine r_iloadn hx 3 rfl rfl dX11_then_39 ?_
            refine r_aloadn hx 1 rfl rfl dX11_then_40 ?_
            refine r_getT hx FK11_2 e_this (by decide) wf_X11_19 dX11_then_41 (fun e11 => ?_)
            refine r_getI hx FK8_2 e11 wf_X11_266 dX11_then_44 ?_
            obtain ⟨μ13, c12, hf⟩ := f_bd1 hf
            refine r_callV hx (As := [.ref (kad k 5 i5), .int a1, .int a2, .int (gi μ2 8 (tx (gi μ2 11 0 2)) 2)]) (rest := []) (st1 := []) (c := 11) (i := 0) (TT := T11) (N := 12) MK_X11_tryMinutes rfl wi_X11_tryMinutes we_X11_tryMinutes wm_X11_269 ⟨Nat.le_refl _, Nat.le_refl _⟩ (cX11_tryMinutes hk e_this e6 c12) e_this (Nat.le_of_ble_eq_true rfl) rfl rfl (Nat.le_of_ble_eq_true rfl) rfl dX11_then_47 (fun hb14 => ?_)
            refine r_iloadn hx 4 rfl rfl dX11_then_50 ?_
            by_cases q15 : a3 = 0
            · have hf := (f_ite hf).1 q15
              refine r_lookup (off := 25) (tgt := 76) hx rfl (by rw [q15]; rfl) rfl dX11_then_51 ?_
              refine r_aloadn hx 1 rfl rfl dX11_then_76 ?_
              refine r_getR hx (c' := 5) (i' := 4) FK11_7 e_this rfl wf_X11_59 dX11_then_77 (fun e16 => ?_)
              refine r_getI hx FK5_0 e16 wf_X11_102 dX11_then_80 ?_
              exact r_iret hx hf dX11_then_83
            · have hf := (f_ite hf).2 q15
              by_cases q17 : a3 = 1
              · have hf := (f_ite hf).1 q17
                refine r_lookup (off := 33) (tgt := 84) hx rfl (by rw [q17]; rfl) rfl dX11_then_51 ?_
                refine r_aloadn hx 1 rfl rfl dX11_then_84 ?_
                refine r_getR hx (c' := 5) (i' := 4) FK11_7 e_this rfl wf_X11_59 dX11_then_85 (fun e18 => ?_)
                refine r_getI hx FK5_1 e18 wf_X11_105 dX11_then_88 ?_
                exact r_iret hx hf dX11_then_91
              · have hf := (f_ite hf).2 q17
                refine r_lookup (off := 41) (tgt := 92) hx rfl ((lv_osw q15 (by decide)).trans <| (lv_osw q17 (by decide)).trans <| rfl) rfl dX11_then_51 ?_
                refine r_aloadn hx 1 rfl rfl dX11_then_92 ?_
                refine r_getR hx (c' := 5) (i' := 4) FK11_7 e_this rfl wf_X11_59 dX11_then_93 (fun e19 => ?_)
                refine r_getI hx FK5_2 e19 wf_X11_115 dX11_then_96 ?_
                exact r_iret hx hf dX11_then_99
          · have hf := (f_ite hf).2 q10
            refine r_sipush hx cs_m1000 dX11_then_31 ?_
            exact r_iret hx hf dX11_then_34
theorem dX11_year_0 : decode bX11_year 0 = .ok (.aload_n 0, 1) := by decide +kernel
theorem dX11_year_1 : decode bX11_year 1 = .ok (.iload_n 1, 1) := by decide +kernel
theorem dX11_year_2 : decode bX11_year 2 = .ok (.invokevirtual 98, 3) := by decide +kernel
theorem dX11_year_5 : decode bX11_year 5 = .ok (.astore 4, 2) := by decide +kernel
theorem dX11_year_7 : decode bX11_year 7 = .ok (.aload 4, 2) := by decide +kernel
theorem dX11_year_9 : decode bX11_year 9 = .ok (.ifnull 24, 3) := by decide +kernel
theorem dX11_year_12 : decode bX11_year 12 = .ok (.iload_n 2, 1) := by decide +kernel
theorem dX11_year_13 : decode bX11_year 13 = .ok (.ifCond .lt 20, 3) := by decide +kernel
theorem dX11_year_16 : decode bX11_year 16 = .ok (.iload_n 2, 1) := by decide +kernel
theorem dX11_year_17 : decode bX11_year 17 = .ok (.bipush 60, 2) := by decide +kernel
theorem dX11_year_19 : decode bX11_year 19 = .ok (.if_icmp .gt 14, 3) := by decide +kernel
theorem dX11_year_22 : decode bX11_year 22 = .ok (.iload_n 3, 1) := by decide +kernel
theorem dX11_year_23 : decode bX11_year 23 = .ok (.iconst 1, 1) := by decide +kernel
theorem dX11_year_24 : decode bX11_year 24 = .ok (.if_icmp .lt 9, 3) := by decide +kernel
theorem dX11_year_27 : decode bX11_year 27 = .ok (.iload_n 3, 1) := by decide +kernel
theorem dX11_year_28 : decode bX11_year 28 = .ok (.bipush 20, 2) := by decide +kernel
theorem dX11_year_30 : decode bX11_year 30 = .ok (.if_icmp .le 5, 3) := by decide +kernel
theorem dX11_year_33 : decode bX11_year 33 = .ok (.iconst (-1), 1) := by decide +kernel
theorem dX11_year_34 : decode bX11_year 34 = .ok (.ireturn, 1) := by decide +kernel
theorem dX11_year_35 : decode bX11_year 35 = .ok (.iconst 0, 1) := by decide +kernel
theorem dX11_year_36 : decode bX11_year 36 = .ok (.istore 5, 2) := by decide +kernel
theorem dX11_year_38 : decode bX11_year 38 = .ok (.iconst 0, 1) := by decide +kernel
theorem dX11_year_39 : decode bX11_year 39 = .ok (.istore 6, 2) := by decide +kernel
theorem dX11_year_41 : decode bX11_year 41 = .ok (.iload 6, 2) := by decide +kernel
theorem dX11_year_43 : decode bX11_year 43 = .ok (.iload_n 3, 1) := by decide +kernel
theorem dX11_year_44 : decode bX11_year 44 = .ok (.if_icmp .ge 40, 3) := by decide +kernel
theorem dX11_year_47 : decode bX11_year 47 = .ok (.aload_n 0, 1) := by decide +kernel
theorem dX11_year_48 : decode bX11_year 48 = .ok (.aload 4, 2) := by decide +kernel
theorem dX11_year_50 : decode bX11_year 50 = .ok (.iload_n 1, 1) := by decide +kernel
theorem dX11_year_51 : decode bX11_year 51 = .ok (.iload_n 2, 1) := by decide +kernel
theorem dX11_year_52 : decode bX11_year 52 = .ok (.aload_n 0, 1) := by decide +kernel
theorem dX11_year_53 : decode bX11_year 53 = .ok (.getfield 19, 3) := by decide +kernel
theorem dX11_year_56 : decode bX11_year 56 = .ok (.getfield 266, 3) := by decide +kernel
theorem dX11_year_59 : decode bX11_year 59 = .ok (.iload 6, 2) := by decide +kernel
theorem dX11_year_61 : decode bX11_year 61 = .ok (.iadd, 1) := by decide +kernel
theorem dX11_year_62 : decode bX11_year 62 = .ok (.invokevirtual 269, 3) := by decide +kernel
theorem dX11_year_65 : decode bX11_year 65 = .ok (.aload_n 0, 1) := by decide +kernel
theorem dX11_year_66 : decode bX11_year 66 = .ok (.getfield 59, 3) := by decide +kernel
theorem dX11_year_69 : decode bX11_year 69 = .ok (.invokevirtual 165, 3) := by decide +kernel
theorem dX11_year_72 : decode bX11_year 72 = .ok (.ifCond .eq 6, 3) := by decide +kernel
theorem dX11_year_75 : decode bX11_year 75 = .ok (.iinc 5 1, 3) := by decide +kernel
theorem dX11_year_78 : decode bX11_year 78 = .ok (.iinc 6 1, 3) := by decide +kernel
theorem dX11_year_81 : decode bX11_year 81 = .ok (.goto (-40), 3) := by decide +kernel
theorem dX11_year_84 : decode bX11_year 84 = .ok (.iload 5, 2) := by decide +kernel
theorem dX11_year_86 : decode bX11_year 86 = .ok (.ireturn, 1) := by decide +kernel
set_option maxRecDepth 20000 in
set_option maxHeartbeats 4000000 in
theorem cX11_year {l : Launch} {k : Kx} {F : Nat} {a1 : Int32} {a2 : Int32} {a3 : Int32} {μ μ' : Mm} {r : Int32} (hk : kok k) (e_this : kex k 11 0) (hf : fX11_year F a1 a2 a3 μ = some (r, μ')) : MM l k 7 yX11_year bX11_year 7 (some .int) [.ref (kad k 11 0), .int a1, .int a2, .int a3] μ (some (.int r)) μ' := by
  refine MM.of (lv := [(0, .ref (kad k 11 0)), (1, .int a1), (2, .int a2), (3, .int a3)]) (plainFor_of_name (by decide)) hk (Nat.le_of_ble_eq_true rfl) rfl (fun z hl hx => ?_)
  subst hl
  have hx : Ok z k bX11_year 7 "RopeDance" (some .int) 7 (0, 0) := hx
  have L78 : ∀ (K41 : Int32 → Int32 → Int32 → Nat → Int32 → Int32 → Mm → Option (Int32 × Mm)) (HK41 : ∀ (v1 : Int32) (v2 : Int32) (v3 : Int32) (v4 : Nat) (v5 : Int32) (v6 : Int32) (μ : Mm) (e_v0 : kex k 11 0) (e_v4 : kex k 5 v4), K41 v1 v2 v3 v4 v5 v6 μ = some (r, μ') → Gw z k 7 (k, (0, 0), (some .int), (some (.int r)), μ') (0, 0) 41 μ [(0, .ref (kad k 11 0)), (1, .int v1), (2, .int v2), (3, .int v3), (4, .ref (kad k 5 v4)), (5, .int v5), (6, .int v6)] []) (v1 : Int32) (v2 : Int32) (v3 : Int32) (v4 : Nat) (v5 : Int32) (v6 : Int32) (μ : Mm) (e_v0 : kex k 11 0) (e_v4 : kex k 5 v4), fX11_year_L78 F K41 v1 v2 v3 v4 v5 v6 μ = some (r, μ') → Gw z k 7 (k, (0, 0), (some .int), (some (.int r)), μ') (0, 0) 78 μ [(0, .ref (kad k 11 0)), (1, .int v1), (2, .int v2), (3, .int v3), (4, .ref (kad k 5 v4)), (5, .int v5), (6, .int v6)] [] := by
    intro K41 HK41 v1 v2 v3 v4 v5 v6 μ e_v0 e_v4 hf
    unfold fX11_year_L78 at hf
    refine r_iinc (lv' := [(6, .int (v6 + 1)), (0, .ref (kad k 11 0)), (1, .int v1), (2, .int v2), (3, .int v3), (4, .ref (kad k 5 v4)), (5, .int v5)]) hx 6 rfl (congrArg (fun y => v6 + y) ci_1) (Nat.le_of_ble_eq_true rfl) rfl dX11_year_78 ?_
    refine r_goto (tgt := 41) hx rfl dX11_year_81 ?_
    refine r_sub [1, 2, 3, 4, 5, 6, 0] rfl ?_
    exact HK41 v1 v2 v3 v4 v5 (v6 + 1) μ e_v0 e_v4 hf
  have L41 : ∀ (n : Nat) (v1 : Int32) (v2 : Int32) (v3 : Int32) (v4 : Nat) (v5 : Int32) (v6 : Int32) (μ : Mm) (e_v0 : kex k 11 0) (e_v4 : kex k 5 v4), fX11_year_L41 F n v1 v2 v3 v4 v5 v6 μ = some (r, μ') → Gw z k 7 (k, (0, 0), (some .int), (some (.int r)), μ') (0, 0) 41 μ [(0, .ref (kad k 11 0)), (1, .int v1), (2, .int v2), (3, .int v3), (4, .ref (kad k 5 v4)), (5, .int v5), (6, .int v6)] [] := by
    intro  n
    induction n with
    | zero =>
      intro v1 v2 v3 v4 v5 v6 μ e_v0 e_v4 hf
      exact f_no (show (none : Option (Int32 × Mm)) = _ from hf)
    | succ n ih =>
      intro v1 v2 v3 v4 v5 v6 μ e_v0 e_v4 hf
      rw [fX11_year_L41] at hf
      refine r_iload hx 6 rfl dX11_year_41 ?_
      refine r_iloadn hx 3 rfl rfl dX11_year_43 ?_
      refine r_icge (tgt := 84) hx rfl dX11_year_44 (fun q11 => ?_) (fun q11 => ?_)
      · have hf := (f_ite hf).1 q11
        refine r_iload hx 5 rfl dX11_year_84 ?_
        exact r_iret hx hf dX11_year_86
      · have hf := (f_ite hf).2 q11
        refine r_aloadn hx 0 rfl rfl dX11_year_47 ?_
        refine r_aload hx 4 rfl dX11_year_48 ?_
        refine r_iloadn hx 1 rfl rfl dX11_year_50 ?_
        refine r_iloadn hx 2 rfl rfl dX11_year_51 ?_
        refine r_aloadn hx 0 rfl rfl dX11_year_52 ?_
        refine r_getT hx FK11_2 e_v0 (by decide) wf_X11_19 dX11_year_53 (fun e12 => ?_)
        refine r_getI hx FK8_2 e12 wf_X11_266 dX11_year_56 ?_
        refine r_iload hx 6 rfl dX11_year_59 ?_
        refine r_iadd hx dX11_year_61 ?_
        obtain ⟨μ14, c13, hf⟩ := f_bd1 hf
        refine r_callV hx (As := [.ref (kad k 5 v4), .int v1, .int v2, .int ((gi μ 8 (tx (gi μ 11 0 2)) 2) + v6)]) (rest := []) (st1 := []) (c := 11) (i := 0) (TT := T11) (N := 12) MK_X11_tryMinutes rfl wi_X11_tryMinutes we_X11_tryMinutes wm_X11_269 ⟨Nat.le_refl _, Nat.le_refl _⟩ (cX11_tryMinutes hk e_v0 e_v4 c13) e_v0 (Nat.le_of_ble_eq_true rfl) rfl rfl (Nat.le_of_ble_eq_true rfl) rfl dX11_year_62 (fun hb15 => ?_)
        refine r_aloadn hx 0 rfl rfl dX11_year_65 ?_
        refine r_getR hx (c' := 5) (i' := 4) FK11_7 e_v0 rfl wf_X11_59 dX11_year_66 (fun e16 => ?_)
        obtain ⟨r19, μ18, c17, hf⟩ := f_bd2 hf
        refine r_callV hx (As := []) (rest := []) (st1 := [.int r19]) (c := 5) (i := 4) (TT := T5) (N := 4) MK_X5_isUndone rfl wi_X5_isUndone we_X5_isUndone wm_X11_165 ⟨Nat.le_refl _, Nat.le_refl _⟩ (cX5_isUndone hk e16 c17) e16 (Nat.le_of_ble_eq_true rfl) rfl rfl (Nat.le_of_ble_eq_true rfl) rfl dX11_year_69 (fun hb20 => ?_)
        refine r_ifeq (tgt := 78) hx rfl dX11_year_72 (fun q21 => ?_) (fun q21 => ?_)
        · have hf := (f_ite hf).1 q21
          refine r_sub [0, 1, 2, 3, 4, 5, 6] rfl ?_
          exact L78 _ ih  v1 v2 v3 v4 v5 v6 μ18 e_v0 e_v4 hf
        · have hf := (f_ite hf).2 q21
          refine r_iinc (lv' := [(5, .int (v5 + 1)), (0, .ref (kad k 11 0)), (1, .int v1), (2, .int v2), (3, .int v3), (4, .ref (kad k 5 v4)), (6, .int v6)]) hx 5 rfl (congrArg (fun y => v5 + y) ci_1) (Nat.le_of_ble_eq_true rfl) rfl dX11_year_75 ?_
          refine r_sub [1, 2, 3, 4, 5, 0, 6] rfl ?_
          exact L78 _ ih  v1 v2 v3 v4 (v5 + 1) v6 μ18 e_v0 e_v4 hf
  unfold fX11_year at hf
  refine r_aloadn hx 0 rfl rfl dX11_year_0 ?_
  refine r_iloadn hx 1 rfl rfl dX11_year_1 ?_
  obtain ⟨r3, μ2, c1, hf⟩ := f_bd2 hf
  refine r_callV hx (As := [.int a1]) (rest := []) (st1 := [rp k 5 r3]) (c := 11) (i := 0) (TT := T11) (N := 12) MK_X11_squareAt rfl wi_X11_squareAt we_X11_squareAt wm_X11_98 ⟨Nat.le_refl _, Nat.le_refl _⟩ (cX11_squareAt hk e_this c1) e_this (Nat.le_of_ble_eq_true rfl) rfl rfl (Nat.le_of_ble_eq_true rfl) rfl dX11_year_2 (fun hb4 => ?_)
  cases r3 with
  | none =>
    have hf := f_on hf
    refine r_astoreN (lv' := [(4, .null), (0, .ref (kad k 11 0)), (1, .int a1), (2, .int a2), (3, .int a3)]) hx (Nat.le_of_ble_eq_true rfl) rfl dX11_year_5 ?_
    refine r_aloadN hx 0 rfl dX11_year_7 ?_
    refine r_nullN (tgt := 33) hx rfl dX11_year_9 ?_
    refine r_iconst hx ci_m1 dX11_year_33 ?_
    exact r_iret hx hf dX11_year_34
  | some i5 =>
    have hf := f_os hf
    have e6 : kex k 5 i5 := xX11_squareAt hk e_this c1
    refine r_astore (lv' := [(4, .ref (kad k 5 i5)), (0, .ref (kad k 11 0)), (1, .int a1), (2, .int a2), (3, .int a3)]) hx (Nat.le_of_ble_eq_true rfl) rfl dX11_year_5 ?_
    refine r_aload hx 0 rfl dX11_year_7 ?_
    refine r_nullS hx dX11_year_9 ?_
    refine r_iloadn hx 3 rfl rfl dX11_year_12 ?_
    refine r_iflt (tgt := 33) hx rfl dX11_year_13 (fun q7 => ?_) (fun q7 => ?_)
    · have hf := (f_ite hf).1 q7
      refine r_iconst hx ci_m1 dX11_year_33 ?_
      exact r_iret hx hf dX11_year_34
    · have hf := (f_ite hf).2 q7
      refine r_iloadn hx 3 rfl rfl dX11_year_16 ?_
      refine r_bipush hx cb_60 dX11_year_17 ?_
      refine r_icgt (tgt := 33) hx rfl dX11_year_19 (fun q8 => ?_) (fun q8 => ?_)
      · have hf := (f_ite hf).1 q8
        refine r_iconst hx ci_m1 dX11_year_33 ?_
        exact r_iret hx hf dX11_year_34
      · have hf := (f_ite hf).2 q8
        refine r_iloadn hx 4 rfl rfl dX11_year_22 ?_
        refine r_iconst hx ci_1 dX11_year_23 ?_
        refine r_iclt (tgt := 33) hx rfl dX11_year_24 (fun q9 => ?_) (fun q9 => ?_)
        · have hf := (f_ite hf).1 q9
          refine r_iconst hx ci_m1 dX11_year_33 ?_
          exact r_iret hx hf dX11_year_34
        · have hf := (f_ite hf).2 q9
          refine r_iloadn hx 4 rfl rfl dX11_year_27 ?_
          refine r_bipush hx cb_20 dX11_year_28 ?_
          refine r_icle (tgt := 35) hx rfl dX11_year_30 (fun q10 => ?_) (fun q10 => ?_)
          · have hf := (f_ite hf).1 q10
            refine r_iconst hx ci_0 dX11_year_35 ?_
            refine r_istore (lv' := [(5, .int 0), (4, .ref (kad k 5 i5)), (0, .ref (kad k 11 0)), (1, .int a1), (2, .int a2), (3, .int a3)]) hx (Nat.le_of_ble_eq_true rfl) rfl dX11_year_36 ?_
            refine r_iconst hx ci_0 dX11_year_38 ?_
            refine r_istore (lv' := [(6, .int 0), (5, .int 0), (4, .ref (kad k 5 i5)), (0, .ref (kad k 11 0)), (1, .int a1), (2, .int a2), (3, .int a3)]) hx (Nat.le_of_ble_eq_true rfl) rfl dX11_year_39 ?_
            refine r_sub [3, 4, 5, 6, 2, 1, 0] rfl ?_
            exact L41 F a1 a2 a3 i5 0 0 μ2 e_this e6 hf
          · have hf := (f_ite hf).2 q10
            refine r_iconst hx ci_m1 dX11_year_33 ?_
            exact r_iret hx hf dX11_year_34
theorem dX11_tell_0 : decode bX11_tell 0 = .ok (.aload_n 0, 1) := by decide +kernel
theorem dX11_tell_1 : decode bX11_tell 1 = .ok (.getfield 52, 3) := by decide +kernel
theorem dX11_tell_4 : decode bX11_tell 4 = .ok (.iload_n 1, 1) := by decide +kernel
theorem dX11_tell_5 : decode bX11_tell 5 = .ok (.iload_n 2, 1) := by decide +kernel
theorem dX11_tell_6 : decode bX11_tell 6 = .ok (.iload_n 3, 1) := by decide +kernel
theorem dX11_tell_7 : decode bX11_tell 7 = .ok (.invokevirtual 273, 3) := by decide +kernel
theorem dX11_tell_10 : decode bX11_tell 10 = .ok (.ireturn, 1) := by decide +kernel
set_option maxRecDepth 20000 in
set_option maxHeartbeats 4000000 in
theorem cX11_tell {l : Launch} {k : Kx} {F : Nat} {a1 : Int32} {a2 : Int32} {a3 : Int32} {μ μ' : Mm} {r : Int32} (hk : kok k) (e_this : kex k 11 0) (hf : fX11_tell F a1 a2 a3 μ = some (r, μ')) : MM l k 1 yX11_tell bX11_tell 4 (some .int) [.ref (kad k 11 0), .int a1, .int a2, .int a3] μ (some (.int r)) μ' := by
  refine MM.of (lv := [(0, .ref (kad k 11 0)), (1, .int a1), (2, .int a2), (3, .int a3)]) (plainFor_of_name (by decide)) hk (Nat.le_of_ble_eq_true rfl) rfl (fun z hl hx => ?_)
  subst hl
  have hx : Ok z k bX11_tell 4 "RopeDance" (some .int) 1 (0, 0) := hx
  unfold fX11_tell at hf
  refine r_aloadn hx 0 rfl rfl dX11_tell_0 ?_
  refine r_getR hx (c' := 9) (i' := 0) FK11_6 e_this rfl wf_X11_52 dX11_tell_1 (fun e1 => ?_)
  refine r_iloadn hx 1 rfl rfl dX11_tell_4 ?_
  refine r_iloadn hx 2 rfl rfl dX11_tell_5 ?_
  refine r_iloadn hx 3 rfl rfl dX11_tell_6 ?_
  obtain ⟨r4, μ3, c2, hf⟩ := f_bd2 hf
  refine r_callV hx (As := [.int a1, .int a2, .int a3]) (rest := []) (st1 := [.int r4]) (c := 9) (i := 0) (TT := T9) (N := 9) MK_X9_add rfl wi_X9_add we_X9_add wm_X11_273 ⟨Nat.le_refl _, Nat.le_refl _⟩ (cX9_add hk e1 c2) e1 (Nat.le_of_ble_eq_true rfl) rfl rfl (Nat.le_of_ble_eq_true rfl) rfl dX11_tell_7 (fun hb5 => ?_)
  exact r_iret hx hf dX11_tell_10
theorem dX11_forget_0 : decode bX11_forget 0 = .ok (.aload_n 0, 1) := by decide +kernel
theorem dX11_forget_1 : decode bX11_forget 1 = .ok (.getfield 52, 3) := by decide +kernel
theorem dX11_forget_4 : decode bX11_forget 4 = .ok (.getfield 277, 3) := by decide +kernel
theorem dX11_forget_7 : decode bX11_forget 7 = .ok (.istore_n 1, 1) := by decide +kernel
theorem dX11_forget_8 : decode bX11_forget 8 = .ok (.aload_n 0, 1) := by decide +kernel
theorem dX11_forget_9 : decode bX11_forget 9 = .ok (.getfield 52, 3) := by decide +kernel
theorem dX11_forget_12 : decode bX11_forget 12 = .ok (.iconst 0, 1) := by decide +kernel
theorem dX11_forget_13 : decode bX11_forget 13 = .ok (.putfield 277, 3) := by decide +kernel
theorem dX11_forget_16 : decode bX11_forget 16 = .ok (.iload_n 1, 1) := by decide +kernel
theorem dX11_forget_17 : decode bX11_forget 17 = .ok (.ireturn, 1) := by decide +kernel
set_option maxRecDepth 20000 in
set_option maxHeartbeats 4000000 in
theorem cX11_forget {l : Launch} {k : Kx} {F : Nat} {μ μ' : Mm} {r : Int32} (hk : kok k) (e_this : kex k 11 0) (hf : fX11_forget F μ = some (r, μ')) : MM l k 0 yX11_forget bX11_forget 2 (some .int) [.ref (kad k 11 0)] μ (some (.int r)) μ' := by
  refine MM.of (lv := [(0, .ref (kad k 11 0))]) (plainFor_of_name (by decide)) hk (Nat.le_of_ble_eq_true rfl) rfl (fun z hl hx => ?_)
  subst hl
  have hx : Ok z k bX11_forget 2 "RopeDance" (some .int) 0 (0, 0) := hx
  unfold fX11_forget at hf
  refine r_aloadn hx 0 rfl rfl dX11_forget_0 ?_
  refine r_getR hx (c' := 9) (i' := 0) FK11_6 e_this rfl wf_X11_52 dX11_forget_1 (fun e1 => ?_)
  refine r_getI hx FK9_0 e1 wf_X11_277 dX11_forget_4 ?_
  refine r_istoren (lv' := [(1, .int (gi μ 9 0 0)), (0, .ref (kad k 11 0))]) hx rfl (Nat.le_of_ble_eq_true rfl) rfl dX11_forget_7 ?_
  refine r_aloadn hx 1 rfl rfl dX11_forget_8 ?_
  refine r_getR hx (c' := 9) (i' := 0) FK11_6 e_this rfl wf_X11_52 dX11_forget_9 (fun e2 => ?_)
  refine r_iconst hx ci_0 dX11_forget_12 ?_
  refine r_putI (ty := .int) hx FK9_0 (fun T N h => by cases h; rfl) e2 wf_X11_277 (by decide +kernel) rfl rfl dX11_forget_13 ?_
  refine r_iloadn hx 0 rfl rfl dX11_forget_16 ?_
  exact r_iret hx hf dX11_forget_17
theorem dX11_rows_0 : decode bX11_rows 0 = .ok (.aload_n 0, 1) := by decide +kernel
theorem dX11_rows_1 : decode bX11_rows 1 = .ok (.iload_n 2, 1) := by decide +kernel
theorem dX11_rows_2 : decode bX11_rows 2 = .ok (.invokevirtual 98, 3) := by decide +kernel
theorem dX11_rows_5 : decode bX11_rows 5 = .ok (.astore 5, 2) := by decide +kernel
theorem dX11_rows_7 : decode bX11_rows 7 = .ok (.aload 5, 2) := by decide +kernel
theorem dX11_rows_9 : decode bX11_rows 9 = .ok (.ifnull 26, 3) := by decide +kernel
theorem dX11_rows_12 : decode bX11_rows 12 = .ok (.aload_n 0, 1) := by decide +kernel
theorem dX11_rows_13 : decode bX11_rows 13 = .ok (.getfield 52, 3) := by decide +kernel
theorem dX11_rows_16 : decode bX11_rows 16 = .ok (.iload_n 1, 1) := by decide +kernel
theorem dX11_rows_17 : decode bX11_rows 17 = .ok (.iload_n 3, 1) := by decide +kernel
theorem dX11_rows_18 : decode bX11_rows 18 = .ok (.invokevirtual 278, 3) := by decide +kernel
theorem dX11_rows_21 : decode bX11_rows 21 = .ok (.ifCond .eq 14, 3) := by decide +kernel
theorem dX11_rows_24 : decode bX11_rows 24 = .ok (.iload 4, 2) := by decide +kernel
theorem dX11_rows_26 : decode bX11_rows 26 = .ok (.ifCond .lt 9, 3) := by decide +kernel
theorem dX11_rows_29 : decode bX11_rows 29 = .ok (.iload 4, 2) := by decide +kernel
theorem dX11_rows_31 : decode bX11_rows 31 = .ok (.iconst 1, 1) := by decide +kernel
theorem dX11_rows_32 : decode bX11_rows 32 = .ok (.if_icmp .le 5, 3) := by decide +kernel
theorem dX11_rows_35 : decode bX11_rows 35 = .ok (.iconst (-1), 1) := by decide +kernel
theorem dX11_rows_36 : decode bX11_rows 36 = .ok (.ireturn, 1) := by decide +kernel
theorem dX11_rows_37 : decode bX11_rows 37 = .ok (.aload_n 0, 1) := by decide +kernel
theorem dX11_rows_38 : decode bX11_rows 38 = .ok (.getfield 52, 3) := by decide +kernel
theorem dX11_rows_41 : decode bX11_rows 41 = .ok (.aload_n 0, 1) := by decide +kernel
theorem dX11_rows_42 : decode bX11_rows 42 = .ok (.getfield 19, 3) := by decide +kernel
theorem dX11_rows_45 : decode bX11_rows 45 = .ok (.aload 5, 2) := by decide +kernel
theorem dX11_rows_47 : decode bX11_rows 47 = .ok (.iload_n 1, 1) := by decide +kernel
theorem dX11_rows_48 : decode bX11_rows 48 = .ok (.iload_n 3, 1) := by decide +kernel
theorem dX11_rows_49 : decode bX11_rows 49 = .ok (.invokevirtual 281, 3) := by decide +kernel
theorem dX11_rows_52 : decode bX11_rows 52 = .ok (.iload 4, 2) := by decide +kernel
theorem dX11_rows_54 : decode bX11_rows 54 = .ok (.ifCond .ne 13, 3) := by decide +kernel
theorem dX11_rows_57 : decode bX11_rows 57 = .ok (.aload_n 0, 1) := by decide +kernel
theorem dX11_rows_58 : decode bX11_rows 58 = .ok (.getfield 52, 3) := by decide +kernel
theorem dX11_rows_61 : decode bX11_rows 61 = .ok (.getfield 285, 3) := by decide +kernel
theorem dX11_rows_64 : decode bX11_rows 64 = .ok (.goto 10, 3) := by decide +kernel
theorem dX11_rows_67 : decode bX11_rows 67 = .ok (.aload_n 0, 1) := by decide +kernel
theorem dX11_rows_68 : decode bX11_rows 68 = .ok (.getfield 52, 3) := by decide +kernel
theorem dX11_rows_71 : decode bX11_rows 71 = .ok (.getfield 288, 3) := by decide +kernel
theorem dX11_rows_74 : decode bX11_rows 74 = .ok (.ireturn, 1) := by decide +kernel
set_option maxRecDepth 20000 in
set_option maxHeartbeats 4000000 in
theorem cX11_rows {l : Launch} {k : Kx} {F : Nat} {a1 : Int32} {a2 : Int32} {a3 : Int32} {a4 : Int32} {μ μ' : Mm} {r : Int32} (hk : kok k) (e_this : kex k 11 0) (hf : fX11_rows F a1 a2 a3 a4 μ = some (r, μ')) : MM l k 5 yX11_rows bX11_rows 6 (some .int) [.ref (kad k 11 0), .int a1, .int a2, .int a3, .int a4] μ (some (.int r)) μ' := by
  refine MM.of (lv := [(0, .ref (kad k 11 0)), (1, .int a1), (2, .int a2), (3, .int a3), (4, .int a4)]) (plainFor_of_name (by decide)) hk (Nat.le_of_ble_eq_true rfl) rfl (fun z hl hx => ?_)
  subst hl
  have hx : Ok z k bX11_rows 6 "RopeDance" (some .int) 5 (0, 0) := hx
  unfold fX11_rows at hf
  refine r_aloadn hx 0 rfl rfl dX11_rows_0 ?_
  refine r_iloadn hx 2 rfl rfl dX11_rows_1 ?_
  obtain ⟨r3, μ2, c1, hf⟩ := f_bd2 hf
  refine r_callV hx (As := [.int a2]) (rest := []) (st1 := [rp k 5 r3]) (c := 11) (i := 0) (TT := T11) (N := 12) MK_X11_squareAt rfl wi_X11_squareAt we_X11_squareAt wm_X11_98 ⟨Nat.le_refl _, Nat.le_refl _⟩ (cX11_squareAt hk e_this c1) e_this (Nat.le_of_ble_eq_true rfl) rfl rfl (Nat.le_of_ble_eq_true rfl) rfl dX11_rows_2 (fun hb4 => ?_)
  cases r3 with
  | none =>
    have hf := f_on hf
    refine r_astoreN (lv' := [(5, .null), (0, .ref (kad k 11 0)), (1, .int a1), (2, .int a2), (3, .int a3), (4, .int a4)]) hx (Nat.le_of_ble_eq_true rfl) rfl dX11_rows_5 ?_
    refine r_aloadN hx 0 rfl dX11_rows_7 ?_
    refine r_nullN (tgt := 35) hx rfl dX11_rows_9 ?_
    refine r_iconst hx ci_m1 dX11_rows_35 ?_
    exact r_iret hx hf dX11_rows_36
  | some i5 =>
    have hf := f_os hf
    have e6 : kex k 5 i5 := xX11_squareAt hk e_this c1
    refine r_astore (lv' := [(5, .ref (kad k 5 i5)), (0, .ref (kad k 11 0)), (1, .int a1), (2, .int a2), (3, .int a3), (4, .int a4)]) hx (Nat.le_of_ble_eq_true rfl) rfl dX11_rows_5 ?_
    refine r_aload hx 0 rfl dX11_rows_7 ?_
    refine r_nullS hx dX11_rows_9 ?_
    refine r_aloadn hx 1 rfl rfl dX11_rows_12 ?_
    refine r_getR hx (c' := 9) (i' := 0) FK11_6 e_this rfl wf_X11_52 dX11_rows_13 (fun e7 => ?_)
    refine r_iloadn hx 2 rfl rfl dX11_rows_16 ?_
    refine r_iloadn hx 4 rfl rfl dX11_rows_17 ?_
    obtain ⟨r10, μ9, c8, hf⟩ := f_bd2 hf
    refine r_callV hx (As := [.int a1, .int a3]) (rest := []) (st1 := [.int r10]) (c := 9) (i := 0) (TT := T9) (N := 9) MK_X9_canHear rfl wi_X9_canHear we_X9_canHear wm_X11_278 ⟨Nat.le_refl _, Nat.le_refl _⟩ (cX9_canHear hk e7 c8) e7 (Nat.le_of_ble_eq_true rfl) rfl rfl (Nat.le_of_ble_eq_true rfl) rfl dX11_rows_18 (fun hb11 => ?_)
    refine r_ifeq (tgt := 35) hx rfl dX11_rows_21 (fun q12 => ?_) (fun q12 => ?_)
    · have hf := (f_ite hf).1 q12
      refine r_iconst hx ci_m1 dX11_rows_35 ?_
      exact r_iret hx hf dX11_rows_36
    · have hf := (f_ite hf).2 q12
      refine r_iload hx 5 rfl dX11_rows_24 ?_
      refine r_iflt (tgt := 35) hx rfl dX11_rows_26 (fun q13 => ?_) (fun q13 => ?_)
      · have hf := (f_ite hf).1 q13
        refine r_iconst hx ci_m1 dX11_rows_35 ?_
        exact r_iret hx hf dX11_rows_36
      · have hf := (f_ite hf).2 q13
        refine r_iload hx 5 rfl dX11_rows_29 ?_
        refine r_iconst hx ci_1 dX11_rows_31 ?_
        refine r_icle (tgt := 37) hx rfl dX11_rows_32 (fun q14 => ?_) (fun q14 => ?_)
        · have hf := (f_ite hf).1 q14
          refine r_aloadn hx 1 rfl rfl dX11_rows_37 ?_
          refine r_getR hx (c' := 9) (i' := 0) FK11_6 e_this rfl wf_X11_52 dX11_rows_38 (fun e15 => ?_)
          refine r_aloadn hx 1 rfl rfl dX11_rows_41 ?_
          refine r_getT hx FK11_2 e_this (by decide) wf_X11_19 dX11_rows_42 (fun e16 => ?_)
          refine r_aload hx 0 rfl dX11_rows_45 ?_
          refine r_iloadn hx 2 rfl rfl dX11_rows_47 ?_
          refine r_iloadn hx 4 rfl rfl dX11_rows_48 ?_
          obtain ⟨μ18, c17, hf⟩ := f_bd1 hf
          refine r_callV hx (As := [.ref (kad k 8 (tx (gi μ9 11 0 2))), .ref (kad k 5 i5), .int a1, .int a3]) (rest := []) (st1 := []) (c := 9) (i := 0) (TT := T9) (N := 9) MK_X9_hear rfl wi_X9_hear we_X9_hear wm_X11_281 ⟨Nat.le_refl _, Nat.le_refl _⟩ (cX9_hear hk e15 e16 e6 c17) e15 (Nat.le_of_ble_eq_true rfl) rfl rfl (Nat.le_of_ble_eq_true rfl) rfl dX11_rows_49 (fun hb19 => ?_)
          refine r_iload hx 5 rfl dX11_rows_52 ?_
          refine r_ifne (tgt := 67) hx rfl dX11_rows_54 (fun q20 => ?_) (fun q20 => ?_)
          · have hf := (f_ite hf).2 q20
            refine r_aloadn hx 1 rfl rfl dX11_rows_67 ?_
            refine r_getR hx (c' := 9) (i' := 0) FK11_6 e_this rfl wf_X11_52 dX11_rows_68 (fun e21 => ?_)
            refine r_getI hx FK9_2 e21 wf_X11_288 dX11_rows_71 ?_
            exact r_iret hx hf dX11_rows_74
          · have hf := (f_ite hf).1 q20
            refine r_aloadn hx 1 rfl rfl dX11_rows_57 ?_
            refine r_getR hx (c' := 9) (i' := 0) FK11_6 e_this rfl wf_X11_52 dX11_rows_58 (fun e22 => ?_)
            refine r_getI hx FK9_1 e22 wf_X11_285 dX11_rows_61 ?_
            refine r_goto (tgt := 74) hx rfl dX11_rows_64 ?_
            exact r_iret hx hf dX11_rows_74
        · have hf := (f_ite hf).2 q14
          refine r_iconst hx ci_m1 dX11_rows_35 ?_
          exact r_iret hx hf dX11_rows_36
theorem dX11_listen_0 : decode bX11_listen 0 = .ok (.aload_n 0, 1) := by decide +kernel
theorem dX11_listen_1 : decode bX11_listen 1 = .ok (.iload_n 2, 1) := by decide +kernel
theorem dX11_listen_2 : decode bX11_listen 2 = .ok (.invokevirtual 98, 3) := by decide +kernel
theorem dX11_listen_5 : decode bX11_listen 5 = .ok (.astore 4, 2) := by decide +kernel
theorem dX11_listen_7 : decode bX11_listen 7 = .ok (.aload 4, 2) := by decide +kernel
theorem dX11_listen_9 : decode bX11_listen 9 = .ok (.ifnull 15, 3) := by decide +kernel
theorem dX11_listen_12 : decode bX11_listen 12 = .ok (.aload_n 0, 1) := by decide +kernel
theorem dX11_listen_13 : decode bX11_listen 13 = .ok (.getfield 52, 3) := by decide +kernel
theorem dX11_listen_16 : decode bX11_listen 16 = .ok (.iload_n 1, 1) := by decide +kernel
theorem dX11_listen_17 : decode bX11_listen 17 = .ok (.iload_n 3, 1) := by decide +kernel
theorem dX11_listen_18 : decode bX11_listen 18 = .ok (.invokevirtual 278, 3) := by decide +kernel
theorem dX11_listen_21 : decode bX11_listen 21 = .ok (.ifCond .ne 5, 3) := by decide +kernel
theorem dX11_listen_24 : decode bX11_listen 24 = .ok (.iconst (-1), 1) := by decide +kernel
theorem dX11_listen_25 : decode bX11_listen 25 = .ok (.ireturn, 1) := by decide +kernel
theorem dX11_listen_26 : decode bX11_listen 26 = .ok (.aload_n 0, 1) := by decide +kernel
theorem dX11_listen_27 : decode bX11_listen 27 = .ok (.getfield 52, 3) := by decide +kernel
theorem dX11_listen_30 : decode bX11_listen 30 = .ok (.aload_n 0, 1) := by decide +kernel
theorem dX11_listen_31 : decode bX11_listen 31 = .ok (.getfield 19, 3) := by decide +kernel
theorem dX11_listen_34 : decode bX11_listen 34 = .ok (.aload 4, 2) := by decide +kernel
theorem dX11_listen_36 : decode bX11_listen 36 = .ok (.iload_n 1, 1) := by decide +kernel
theorem dX11_listen_37 : decode bX11_listen 37 = .ok (.iload_n 3, 1) := by decide +kernel
theorem dX11_listen_38 : decode bX11_listen 38 = .ok (.invokevirtual 281, 3) := by decide +kernel
theorem dX11_listen_41 : decode bX11_listen 41 = .ok (.aload_n 0, 1) := by decide +kernel
theorem dX11_listen_42 : decode bX11_listen 42 = .ok (.getfield 52, 3) := by decide +kernel
theorem dX11_listen_45 : decode bX11_listen 45 = .ok (.iload_n 3, 1) := by decide +kernel
theorem dX11_listen_46 : decode bX11_listen 46 = .ok (.invokevirtual 291, 3) := by decide +kernel
theorem dX11_listen_49 : decode bX11_listen 49 = .ok (.ireturn, 1) := by decide +kernel
set_option maxRecDepth 20000 in
set_option maxHeartbeats 4000000 in
theorem cX11_listen {l : Launch} {k : Kx} {F : Nat} {a1 : Int32} {a2 : Int32} {a3 : Int32} {μ μ' : Mm} {r : Int32} (hk : kok k) (e_this : kex k 11 0) (hf : fX11_listen F a1 a2 a3 μ = some (r, μ')) : MM l k 5 yX11_listen bX11_listen 5 (some .int) [.ref (kad k 11 0), .int a1, .int a2, .int a3] μ (some (.int r)) μ' := by
  refine MM.of (lv := [(0, .ref (kad k 11 0)), (1, .int a1), (2, .int a2), (3, .int a3)]) (plainFor_of_name (by decide)) hk (Nat.le_of_ble_eq_true rfl) rfl (fun z hl hx => ?_)
  subst hl
  have hx : Ok z k bX11_listen 5 "RopeDance" (some .int) 5 (0, 0) := hx
  unfold fX11_listen at hf
  refine r_aloadn hx 0 rfl rfl dX11_listen_0 ?_
  refine r_iloadn hx 2 rfl rfl dX11_listen_1 ?_
  obtain ⟨r3, μ2, c1, hf⟩ := f_bd2 hf
  refine r_callV hx (As := [.int a2]) (rest := []) (st1 := [rp k 5 r3]) (c := 11) (i := 0) (TT := T11) (N := 12) MK_X11_squareAt rfl wi_X11_squareAt we_X11_squareAt wm_X11_98 ⟨Nat.le_refl _, Nat.le_refl _⟩ (cX11_squareAt hk e_this c1) e_this (Nat.le_of_ble_eq_true rfl) rfl rfl (Nat.le_of_ble_eq_true rfl) rfl dX11_listen_2 (fun hb4 => ?_)
  cases r3 with
  | none =>
    have hf := f_on hf
    refine r_astoreN (lv' := [(4, .null), (0, .ref (kad k 11 0)), (1, .int a1), (2, .int a2), (3, .int a3)]) hx (Nat.le_of_ble_eq_true rfl) rfl dX11_listen_5 ?_
    refine r_aloadN hx 0 rfl dX11_listen_7 ?_
    refine r_nullN (tgt := 24) hx rfl dX11_listen_9 ?_
    refine r_iconst hx ci_m1 dX11_listen_24 ?_
    exact r_iret hx hf dX11_listen_25
  | some i5 =>
    have hf := f_os hf
    have e6 : kex k 5 i5 := xX11_squareAt hk e_this c1
    refine r_astore (lv' := [(4, .ref (kad k 5 i5)), (0, .ref (kad k 11 0)), (1, .int a1), (2, .int a2), (3, .int a3)]) hx (Nat.le_of_ble_eq_true rfl) rfl dX11_listen_5 ?_
    refine r_aload hx 0 rfl dX11_listen_7 ?_
    refine r_nullS hx dX11_listen_9 ?_
    refine r_aloadn hx 1 rfl rfl dX11_listen_12 ?_
    refine r_getR hx (c' := 9) (i' := 0) FK11_6 e_this rfl wf_X11_52 dX11_listen_13 (fun e7 => ?_)
    refine r_iloadn hx 2 rfl rfl dX11_listen_16 ?_
    refine r_iloadn hx 4 rfl rfl dX11_listen_17 ?_
    obtain ⟨r10, μ9, c8, hf⟩ := f_bd2 hf
    refine r_callV hx (As := [.int a1, .int a3]) (rest := []) (st1 := [.int r10]) (c := 9) (i := 0) (TT := T9) (N := 9) MK_X9_canHear rfl wi_X9_canHear we_X9_canHear wm_X11_278 ⟨Nat.le_refl _, Nat.le_refl _⟩ (cX9_canHear hk e7 c8) e7 (Nat.le_of_ble_eq_true rfl) rfl rfl (Nat.le_of_ble_eq_true rfl) rfl dX11_listen_18 (fun hb11 => ?_)
    refine r_ifne (tgt := 26) hx rfl dX11_listen_21 (fun q12 => ?_) (fun q12 => ?_)
    · have hf := (f_ite hf).2 q12
      refine r_aloadn hx 1 rfl rfl dX11_listen_26 ?_
      refine r_getR hx (c' := 9) (i' := 0) FK11_6 e_this rfl wf_X11_52 dX11_listen_27 (fun e13 => ?_)
      refine r_aloadn hx 1 rfl rfl dX11_listen_30 ?_
      refine r_getT hx FK11_2 e_this (by decide) wf_X11_19 dX11_listen_31 (fun e14 => ?_)
      refine r_aload hx 0 rfl dX11_listen_34 ?_
      refine r_iloadn hx 2 rfl rfl dX11_listen_36 ?_
      refine r_iloadn hx 4 rfl rfl dX11_listen_37 ?_
      obtain ⟨μ16, c15, hf⟩ := f_bd1 hf
      refine r_callV hx (As := [.ref (kad k 8 (tx (gi μ9 11 0 2))), .ref (kad k 5 i5), .int a1, .int a3]) (rest := []) (st1 := []) (c := 9) (i := 0) (TT := T9) (N := 9) MK_X9_hear rfl wi_X9_hear we_X9_hear wm_X11_281 ⟨Nat.le_refl _, Nat.le_refl _⟩ (cX9_hear hk e13 e14 e6 c15) e13 (Nat.le_of_ble_eq_true rfl) rfl rfl (Nat.le_of_ble_eq_true rfl) rfl dX11_listen_38 (fun hb17 => ?_)
      refine r_aloadn hx 1 rfl rfl dX11_listen_41 ?_
      refine r_getR hx (c' := 9) (i' := 0) FK11_6 e_this rfl wf_X11_52 dX11_listen_42 (fun e18 => ?_)
      refine r_iloadn hx 4 rfl rfl dX11_listen_45 ?_
      obtain ⟨r21, μ20, c19, hf⟩ := f_bd2 hf
      refine r_callV hx (As := [.int a3]) (rest := []) (st1 := [.int r21]) (c := 9) (i := 0) (TT := T9) (N := 9) MK_X9_whereToListen rfl wi_X9_whereToListen we_X9_whereToListen wm_X11_291 ⟨Nat.le_refl _, Nat.le_refl _⟩ (cX9_whereToListen hk e18 c19) e18 (Nat.le_of_ble_eq_true rfl) rfl rfl (Nat.le_of_ble_eq_true rfl) rfl dX11_listen_46 (fun hb22 => ?_)
      exact r_iret hx hf dX11_listen_49
    · have hf := (f_ite hf).1 q12
      refine r_iconst hx ci_m1 dX11_listen_24 ?_
      exact r_iret hx hf dX11_listen_25
theorem dX11_hold_0 : decode bX11_hold 0 = .ok (.aload_n 0, 1) := by decide +kernel
theorem dX11_hold_1 : decode bX11_hold 1 = .ok (.getfield 45, 3) := by decide +kernel
theorem dX11_hold_4 : decode bX11_hold 4 = .ok (.iload_n 1, 1) := by decide +kernel
theorem dX11_hold_5 : decode bX11_hold 5 = .ok (.aload_n 0, 1) := by decide +kernel
theorem dX11_hold_6 : decode bX11_hold 6 = .ok (.getfield 38, 3) := by decide +kernel
theorem dX11_hold_9 : decode bX11_hold 9 = .ok (.invokevirtual 294, 3) := by decide +kernel
theorem dX11_hold_12 : decode bX11_hold 12 = .ok (.ireturn, 1) := by decide +kernel
set_option maxRecDepth 20000 in
set_option maxHeartbeats 4000000 in
theorem cX11_hold {l : Launch} {k : Kx} {F : Nat} {a1 : Int32} {μ μ' : Mm} {r : Int32} (hk : kok k) (e_this : kex k 11 0) (hf : fX11_hold F a1 μ = some (r, μ')) : MM l k 2 yX11_hold bX11_hold 2 (some .boolean) [.ref (kad k 11 0), .int a1] μ (some (.int r)) μ' := by
  refine MM.of (lv := [(0, .ref (kad k 11 0)), (1, .int a1)]) (plainFor_of_name (by decide)) hk (Nat.le_of_ble_eq_true rfl) rfl (fun z hl hx => ?_)
  subst hl
  have hx : Ok z k bX11_hold 2 "RopeDance" (some .boolean) 2 (0, 0) := hx
  unfold fX11_hold at hf
  refine r_aloadn hx 0 rfl rfl dX11_hold_0 ?_
  refine r_getR hx (c' := 1) (i' := 0) FK11_5 e_this rfl wf_X11_45 dX11_hold_1 (fun e1 => ?_)
  refine r_iloadn hx 1 rfl rfl dX11_hold_4 ?_
  refine r_aloadn hx 0 rfl rfl dX11_hold_5 ?_
  refine r_getR hx (c' := 0) (i' := 0) FK11_4 e_this rfl wf_X11_38 dX11_hold_6 (fun e2 => ?_)
  obtain ⟨r5, μ4, c3, hf⟩ := f_bd2 hf
  refine r_callV hx (As := [.int a1, .ref (kad k 0 0)]) (rest := []) (st1 := [.int r5]) (c := 1) (i := 0) (TT := T1) (N := 5) MK_X1_keep rfl wi_X1_keep we_X1_keep wm_X11_294 ⟨Nat.le_refl _, Nat.le_refl _⟩ (cX1_keep hk e1 e2 c3) e1 (Nat.le_of_ble_eq_true rfl) rfl rfl (Nat.le_of_ble_eq_true rfl) rfl dX11_hold_9 (fun hb6 => ?_)
  exact r_zret hx hf (hb6.1 rfl _ rfl) dX11_hold_12
theorem dX11_restore_0 : decode bX11_restore 0 = .ok (.aload_n 0, 1) := by decide +kernel
theorem dX11_restore_1 : decode bX11_restore 1 = .ok (.getfield 45, 3) := by decide +kernel
theorem dX11_restore_4 : decode bX11_restore 4 = .ok (.iload_n 1, 1) := by decide +kernel
theorem dX11_restore_5 : decode bX11_restore 5 = .ok (.aload_n 0, 1) := by decide +kernel
theorem dX11_restore_6 : decode bX11_restore 6 = .ok (.getfield 38, 3) := by decide +kernel
theorem dX11_restore_9 : decode bX11_restore 9 = .ok (.invokevirtual 298, 3) := by decide +kernel
theorem dX11_restore_12 : decode bX11_restore 12 = .ok (.ireturn, 1) := by decide +kernel
set_option maxRecDepth 20000 in
set_option maxHeartbeats 4000000 in
theorem cX11_restore {l : Launch} {k : Kx} {F : Nat} {a1 : Int32} {μ μ' : Mm} {r : Int32} (hk : kok k) (e_this : kex k 11 0) (hf : fX11_restore F a1 μ = some (r, μ')) : MM l k 2 yX11_restore bX11_restore 2 (some .boolean) [.ref (kad k 11 0), .int a1] μ (some (.int r)) μ' := by
  refine MM.of (lv := [(0, .ref (kad k 11 0)), (1, .int a1)]) (plainFor_of_name (by decide)) hk (Nat.le_of_ble_eq_true rfl) rfl (fun z hl hx => ?_)
  subst hl
  have hx : Ok z k bX11_restore 2 "RopeDance" (some .boolean) 2 (0, 0) := hx
  unfold fX11_restore at hf
  refine r_aloadn hx 0 rfl rfl dX11_restore_0 ?_
  refine r_getR hx (c' := 1) (i' := 0) FK11_5 e_this rfl wf_X11_45 dX11_restore_1 (fun e1 => ?_)
  refine r_iloadn hx 1 rfl rfl dX11_restore_4 ?_
  refine r_aloadn hx 0 rfl rfl dX11_restore_5 ?_
  refine r_getR hx (c' := 0) (i' := 0) FK11_4 e_this rfl wf_X11_38 dX11_restore_6 (fun e2 => ?_)
  obtain ⟨r5, μ4, c3, hf⟩ := f_bd2 hf
  refine r_callV hx (As := [.int a1, .ref (kad k 0 0)]) (rest := []) (st1 := [.int r5]) (c := 1) (i := 0) (TT := T1) (N := 5) MK_X1_goOn rfl wi_X1_goOn we_X1_goOn wm_X11_298 ⟨Nat.le_refl _, Nat.le_refl _⟩ (cX1_goOn hk e1 e2 c3) e1 (Nat.le_of_ble_eq_true rfl) rfl rfl (Nat.le_of_ble_eq_true rfl) rfl dX11_restore_9 (fun hb6 => ?_)
  exact r_zret hx hf (hb6.1 rfl _ rfl) dX11_restore_12
theorem dX11_allCrossings_0 : decode bX11_allCrossings 0 = .ok (.iconst 0, 1) := by decide +kernel
theorem dX11_allCrossings_1 : decode bX11_allCrossings 1 = .ok (.istore_n 1, 1) := by decide +kernel
theorem dX11_allCrossings_2 : decode bX11_allCrossings 2 = .ok (.iconst 0, 1) := by decide +kernel
theorem dX11_allCrossings_3 : decode bX11_allCrossings 3 = .ok (.istore_n 2, 1) := by decide +kernel
theorem dX11_allCrossings_4 : decode bX11_allCrossings 4 = .ok (.iload_n 2, 1) := by decide +kernel
theorem dX11_allCrossings_5 : decode bX11_allCrossings 5 = .ok (.aload_n 0, 1) := by decide +kernel
theorem dX11_allCrossings_6 : decode bX11_allCrossings 6 = .ok (.getfield 19, 3) := by decide +kernel
theorem dX11_allCrossings_9 : decode bX11_allCrossings 9 = .ok (.getfield 301, 3) := by decide +kernel
theorem dX11_allCrossings_12 : decode bX11_allCrossings 12 = .ok (.if_icmp .ge 24, 3) := by decide +kernel
theorem dX11_allCrossings_15 : decode bX11_allCrossings 15 = .ok (.iload_n 1, 1) := by decide +kernel
theorem dX11_allCrossings_16 : decode bX11_allCrossings 16 = .ok (.aload_n 0, 1) := by decide +kernel
theorem dX11_allCrossings_17 : decode bX11_allCrossings 17 = .ok (.getfield 38, 3) := by decide +kernel
theorem dX11_allCrossings_20 : decode bX11_allCrossings 20 = .ok (.getfield 337, 3) := by decide +kernel
theorem dX11_allCrossings_23 : decode bX11_allCrossings 23 = .ok (.iload_n 2, 1) := by decide +kernel
theorem dX11_allCrossings_24 : decode bX11_allCrossings 24 = .ok (.aaload, 1) := by decide +kernel
theorem dX11_allCrossings_25 : decode bX11_allCrossings 25 = .ok (.invokevirtual 108, 3) := by decide +kernel
theorem dX11_allCrossings_28 : decode bX11_allCrossings 28 = .ok (.iadd, 1) := by decide +kernel
theorem dX11_allCrossings_29 : decode bX11_allCrossings 29 = .ok (.istore_n 1, 1) := by decide +kernel
theorem dX11_allCrossings_30 : decode bX11_allCrossings 30 = .ok (.iinc 2 1, 3) := by decide +kernel
theorem dX11_allCrossings_33 : decode bX11_allCrossings 33 = .ok (.goto (-29), 3) := by decide +kernel
theorem dX11_allCrossings_36 : decode bX11_allCrossings 36 = .ok (.iload_n 1, 1) := by decide +kernel
theorem dX11_allCrossings_37 : decode bX11_allCrossings 37 = .ok (.ireturn, 1) := by decide +kernel
set_option maxRecDepth 20000 in
set_option maxHeartbeats 4000000 in
theorem cX11_allCrossings {l : Launch} {k : Kx} {F : Nat} {μ μ' : Mm} {r : Int32} (hk : kok k) (e_this : kex k 11 0) (hf : fX11_allCrossings F μ = some (r, μ')) : MM l k 2 yX11_allCrossings bX11_allCrossings 3 (some .int) [.ref (kad k 11 0)] μ (some (.int r)) μ' := by
  refine MM.of (lv := [(0, .ref (kad k 11 0))]) (plainFor_of_name (by decide)) hk (Nat.le_of_ble_eq_true rfl) rfl (fun z hl hx => ?_)
  subst hl
  have hx : Ok z k bX11_allCrossings 3 "RopeDance" (some .int) 2 (0, 0) := hx
  have L4 : ∀ (n : Nat) (v1 : Int32) (v2 : Int32) (μ : Mm) (e_v0 : kex k 11 0), fX11_allCrossings_L4 F n v1 v2 μ = some (r, μ') → Gw z k 3 (k, (0, 0), (some .int), (some (.int r)), μ') (0, 0) 4 μ [(0, .ref (kad k 11 0)), (1, .int v1), (2, .int v2)] [] := by
    intro  n
    induction n with
    | zero =>
      intro v1 v2 μ e_v0 hf
      exact f_no (show (none : Option (Int32 × Mm)) = _ from hf)
    | succ n ih =>
      intro v1 v2 μ e_v0 hf
      rw [fX11_allCrossings_L4] at hf
      refine r_iloadn hx 2 rfl rfl dX11_allCrossings_4 ?_
      refine r_aloadn hx 0 rfl rfl dX11_allCrossings_5 ?_
      refine r_getT hx FK11_2 e_v0 (by decide) wf_X11_19 dX11_allCrossings_6 (fun e1 => ?_)
      refine r_getI hx FK8_0 e1 wf_X11_301 dX11_allCrossings_9 ?_
      refine r_icge (tgt := 36) hx rfl dX11_allCrossings_12 (fun q2 => ?_) (fun q2 => ?_)
      · have hf := (f_ite hf).1 q2
        refine r_iloadn hx 1 rfl rfl dX11_allCrossings_36 ?_
        exact r_iret hx hf dX11_allCrossings_37
      · have hf := (f_ite hf).2 q2
        refine r_iloadn hx 1 rfl rfl dX11_allCrossings_15 ?_
        refine r_aloadn hx 0 rfl rfl dX11_allCrossings_16 ?_
        refine r_getR hx (c' := 0) (i' := 0) FK11_4 e_v0 rfl wf_X11_38 dX11_allCrossings_17 (fun e3 => ?_)
        refine r_getR hx (c' := 20) (i' := 0) FK0_0 e3 rfl wf_X11_337 dX11_allCrossings_20 (fun e4 => ?_)
        refine r_iloadn hx 2 rfl rfl dX11_allCrossings_23 ?_
        obtain ⟨b5, hf⟩ := f_chk hf
        refine r_aald hx (c' := 5) (i' := (v2.toNatClampNeg)) (by decide) (by decide) (by decide) e4 b5 rfl rfl dX11_allCrossings_24 (fun e6 => ?_)
        obtain ⟨r9, μ8, c7, hf⟩ := f_bd2 hf
        refine r_callV hx (As := []) (rest := [.int v1]) (st1 := [.int r9, .int v1]) (c := 5) (i := (v2.toNatClampNeg)) (TT := T5) (N := 4) MK_X5_crossings rfl wi_X5_crossings we_X5_crossings wm_X11_108 ⟨Nat.le_refl _, Nat.le_refl _⟩ (cX5_crossings hk e6 c7) e6 (Nat.le_of_ble_eq_true rfl) rfl rfl (Nat.le_of_ble_eq_true rfl) rfl dX11_allCrossings_25 (fun hb10 => ?_)
        refine r_iadd hx dX11_allCrossings_28 ?_
        refine r_istoren (lv' := [(1, .int (v1 + r9)), (0, .ref (kad k 11 0)), (2, .int v2)]) hx rfl (Nat.le_of_ble_eq_true rfl) rfl dX11_allCrossings_29 ?_
        refine r_iinc (lv' := [(2, .int (v2 + 1)), (1, .int (v1 + r9)), (0, .ref (kad k 11 0))]) hx 2 rfl (congrArg (fun y => v2 + y) ci_1) (Nat.le_of_ble_eq_true rfl) rfl dX11_allCrossings_30 ?_
        refine r_goto (tgt := 4) hx rfl dX11_allCrossings_33 ?_
        refine r_sub [2, 1, 0] rfl ?_
        exact ih (v1 + r9) (v2 + 1) μ8 e_v0 hf
  unfold fX11_allCrossings at hf
  refine r_iconst hx ci_0 dX11_allCrossings_0 ?_
  refine r_istoren (lv' := [(1, .int 0), (0, .ref (kad k 11 0))]) hx rfl (Nat.le_of_ble_eq_true rfl) rfl dX11_allCrossings_1 ?_
  refine r_iconst hx ci_0 dX11_allCrossings_2 ?_
  refine r_istoren (lv' := [(2, .int 0), (1, .int 0), (0, .ref (kad k 11 0))]) hx rfl (Nat.le_of_ble_eq_true rfl) rfl dX11_allCrossings_3 ?_
  refine r_sub [2, 1, 0] rfl ?_
  exact L4 F 0 0 μ e_this hf
theorem dX11_undoneSquares_0 : decode bX11_undoneSquares 0 = .ok (.iconst 0, 1) := by decide +kernel
theorem dX11_undoneSquares_1 : decode bX11_undoneSquares 1 = .ok (.istore_n 1, 1) := by decide +kernel
theorem dX11_undoneSquares_2 : decode bX11_undoneSquares 2 = .ok (.iconst 0, 1) := by decide +kernel
theorem dX11_undoneSquares_3 : decode bX11_undoneSquares 3 = .ok (.istore_n 2, 1) := by decide +kernel
theorem dX11_undoneSquares_4 : decode bX11_undoneSquares 4 = .ok (.iload_n 2, 1) := by decide +kernel
theorem dX11_undoneSquares_5 : decode bX11_undoneSquares 5 = .ok (.aload_n 0, 1) := by decide +kernel
theorem dX11_undoneSquares_6 : decode bX11_undoneSquares 6 = .ok (.getfield 19, 3) := by decide +kernel
theorem dX11_undoneSquares_9 : decode bX11_undoneSquares 9 = .ok (.getfield 301, 3) := by decide +kernel
theorem dX11_undoneSquares_12 : decode bX11_undoneSquares 12 = .ok (.if_icmp .ge 30, 3) := by decide +kernel
theorem dX11_undoneSquares_15 : decode bX11_undoneSquares 15 = .ok (.aload_n 0, 1) := by decide +kernel
theorem dX11_undoneSquares_16 : decode bX11_undoneSquares 16 = .ok (.getfield 38, 3) := by decide +kernel
theorem dX11_undoneSquares_19 : decode bX11_undoneSquares 19 = .ok (.getfield 337, 3) := by decide +kernel
theorem dX11_undoneSquares_22 : decode bX11_undoneSquares 22 = .ok (.iload_n 2, 1) := by decide +kernel
theorem dX11_undoneSquares_23 : decode bX11_undoneSquares 23 = .ok (.aaload, 1) := by decide +kernel
theorem dX11_undoneSquares_24 : decode bX11_undoneSquares 24 = .ok (.invokevirtual 165, 3) := by decide +kernel
theorem dX11_undoneSquares_27 : decode bX11_undoneSquares 27 = .ok (.ifCond .eq 9, 3) := by decide +kernel
theorem dX11_undoneSquares_30 : decode bX11_undoneSquares 30 = .ok (.iload_n 1, 1) := by decide +kernel
theorem dX11_undoneSquares_31 : decode bX11_undoneSquares 31 = .ok (.iconst 1, 1) := by decide +kernel
theorem dX11_undoneSquares_32 : decode bX11_undoneSquares 32 = .ok (.iload_n 2, 1) := by decide +kernel
theorem dX11_undoneSquares_33 : decode bX11_undoneSquares 33 = .ok (.ishl, 1) := by decide +kernel
theorem dX11_undoneSquares_34 : decode bX11_undoneSquares 34 = .ok (.ior, 1) := by decide +kernel
theorem dX11_undoneSquares_35 : decode bX11_undoneSquares 35 = .ok (.istore_n 1, 1) := by decide +kernel
theorem dX11_undoneSquares_36 : decode bX11_undoneSquares 36 = .ok (.iinc 2 1, 3) := by decide +kernel
theorem dX11_undoneSquares_39 : decode bX11_undoneSquares 39 = .ok (.goto (-35), 3) := by decide +kernel
theorem dX11_undoneSquares_42 : decode bX11_undoneSquares 42 = .ok (.iload_n 1, 1) := by decide +kernel
theorem dX11_undoneSquares_43 : decode bX11_undoneSquares 43 = .ok (.ireturn, 1) := by decide +kernel
set_option maxRecDepth 20000 in
set_option maxHeartbeats 4000000 in
theorem cX11_undoneSquares {l : Launch} {k : Kx} {F : Nat} {μ μ' : Mm} {r : Int32} (hk : kok k) (e_this : kex k 11 0) (hf : fX11_undoneSquares F μ = some (r, μ')) : MM l k 1 yX11_undoneSquares bX11_undoneSquares 3 (some .int) [.ref (kad k 11 0)] μ (some (.int r)) μ' := by
  refine MM.of (lv := [(0, .ref (kad k 11 0))]) (plainFor_of_name (by decide)) hk (Nat.le_of_ble_eq_true rfl) rfl (fun z hl hx => ?_)
  subst hl
  have hx : Ok z k bX11_undoneSquares 3 "RopeDance" (some .int) 1 (0, 0) := hx
  have L36 : ∀ (K4 : Int32 → Int32 → Mm → Option (Int32 × Mm)) (HK4 : ∀ (v1 : Int32) (v2 : Int32) (μ : Mm) (e_v0 : kex k 11 0), K4 v1 v2 μ = some (r, μ') → Gw z k 3 (k, (0, 0), (some .int), (some (.int r)), μ') (0, 0) 4 μ [(0, .ref (kad k 11 0)), (1, .int v1), (2, .int v2)] []) (v1 : Int32) (v2 : Int32) (μ : Mm) (e_v0 : kex k 11 0), fX11_undoneSquares_L36 F K4 v1 v2 μ = some (r, μ') → Gw z k 3 (k, (0, 0), (some .int), (some (.int r)), μ') (0, 0) 36 μ [(0, .ref (kad k 11 0)), (1, .int v1), (2, .int v2)] [] := by
    intro K4 HK4 v1 v2 μ e_v0 hf
    unfold fX11_undoneSquares_L36 at hf
    refine r_iinc (lv' := [(2, .int (v2 + 1)), (0, .ref (kad k 11 0)), (1, .int v1)]) hx 2 rfl (congrArg (fun y => v2 + y) ci_1) (Nat.le_of_ble_eq_true rfl) rfl dX11_undoneSquares_36 ?_
    refine r_goto (tgt := 4) hx rfl dX11_undoneSquares_39 ?_
    refine r_sub [1, 2, 0] rfl ?_
    exact HK4 v1 (v2 + 1) μ e_v0 hf
  have L4 : ∀ (n : Nat) (v1 : Int32) (v2 : Int32) (μ : Mm) (e_v0 : kex k 11 0), fX11_undoneSquares_L4 F n v1 v2 μ = some (r, μ') → Gw z k 3 (k, (0, 0), (some .int), (some (.int r)), μ') (0, 0) 4 μ [(0, .ref (kad k 11 0)), (1, .int v1), (2, .int v2)] [] := by
    intro  n
    induction n with
    | zero =>
      intro v1 v2 μ e_v0 hf
      exact f_no (show (none : Option (Int32 × Mm)) = _ from hf)
    | succ n ih =>
      intro v1 v2 μ e_v0 hf
      rw [fX11_undoneSquares_L4] at hf
      refine r_iloadn hx 2 rfl rfl dX11_undoneSquares_4 ?_
      refine r_aloadn hx 0 rfl rfl dX11_undoneSquares_5 ?_
      refine r_getT hx FK11_2 e_v0 (by decide) wf_X11_19 dX11_undoneSquares_6 (fun e1 => ?_)
      refine r_getI hx FK8_0 e1 wf_X11_301 dX11_undoneSquares_9 ?_
      refine r_icge (tgt := 42) hx rfl dX11_undoneSquares_12 (fun q2 => ?_) (fun q2 => ?_)
      · have hf := (f_ite hf).1 q2
        refine r_iloadn hx 1 rfl rfl dX11_undoneSquares_42 ?_
        exact r_iret hx hf dX11_undoneSquares_43
      · have hf := (f_ite hf).2 q2
        refine r_aloadn hx 0 rfl rfl dX11_undoneSquares_15 ?_
        refine r_getR hx (c' := 0) (i' := 0) FK11_4 e_v0 rfl wf_X11_38 dX11_undoneSquares_16 (fun e3 => ?_)
        refine r_getR hx (c' := 20) (i' := 0) FK0_0 e3 rfl wf_X11_337 dX11_undoneSquares_19 (fun e4 => ?_)
        refine r_iloadn hx 2 rfl rfl dX11_undoneSquares_22 ?_
        obtain ⟨b5, hf⟩ := f_chk hf
        refine r_aald hx (c' := 5) (i' := (v2.toNatClampNeg)) (by decide) (by decide) (by decide) e4 b5 rfl rfl dX11_undoneSquares_23 (fun e6 => ?_)
        obtain ⟨r9, μ8, c7, hf⟩ := f_bd2 hf
        refine r_callV hx (As := []) (rest := []) (st1 := [.int r9]) (c := 5) (i := (v2.toNatClampNeg)) (TT := T5) (N := 4) MK_X5_isUndone rfl wi_X5_isUndone we_X5_isUndone wm_X11_165 ⟨Nat.le_refl _, Nat.le_refl _⟩ (cX5_isUndone hk e6 c7) e6 (Nat.le_of_ble_eq_true rfl) rfl rfl (Nat.le_of_ble_eq_true rfl) rfl dX11_undoneSquares_24 (fun hb10 => ?_)
        refine r_ifeq (tgt := 36) hx rfl dX11_undoneSquares_27 (fun q11 => ?_) (fun q11 => ?_)
        · have hf := (f_ite hf).1 q11
          refine r_sub [0, 1, 2] rfl ?_
          exact L36 _ ih  v1 v2 μ8 e_v0 hf
        · have hf := (f_ite hf).2 q11
          refine r_iloadn hx 1 rfl rfl dX11_undoneSquares_30 ?_
          refine r_iconst hx ci_1 dX11_undoneSquares_31 ?_
          refine r_iloadn hx 2 rfl rfl dX11_undoneSquares_32 ?_
          refine r_ishl hx dX11_undoneSquares_33 ?_
          refine r_ior hx dX11_undoneSquares_34 ?_
          refine r_istoren (lv' := [(1, .int (v1 ||| (1 <<< (v2 &&& 31)))), (0, .ref (kad k 11 0)), (2, .int v2)]) hx rfl (Nat.le_of_ble_eq_true rfl) rfl dX11_undoneSquares_35 ?_
          refine r_sub [1, 0, 2] rfl ?_
          exact L36 _ ih  (v1 ||| (1 <<< (v2 &&& 31))) v2 μ8 e_v0 hf
  unfold fX11_undoneSquares at hf
  refine r_iconst hx ci_0 dX11_undoneSquares_0 ?_
  refine r_istoren (lv' := [(1, .int 0), (0, .ref (kad k 11 0))]) hx rfl (Nat.le_of_ble_eq_true rfl) rfl dX11_undoneSquares_1 ?_
  refine r_iconst hx ci_0 dX11_undoneSquares_2 ?_
  refine r_istoren (lv' := [(2, .int 0), (1, .int 0), (0, .ref (kad k 11 0))]) hx rfl (Nat.le_of_ble_eq_true rfl) rfl dX11_undoneSquares_3 ?_
  refine r_sub [2, 1, 0] rfl ?_
  exact L4 F 0 0 μ e_this hf
theorem dX11_allTired_0 : decode bX11_allTired 0 = .ok (.iconst 0, 1) := by decide +kernel
theorem dX11_allTired_1 : decode bX11_allTired 1 = .ok (.istore_n 1, 1) := by decide +kernel
theorem dX11_allTired_2 : decode bX11_allTired 2 = .ok (.iconst 0, 1) := by decide +kernel
theorem dX11_allTired_3 : decode bX11_allTired 3 = .ok (.istore_n 2, 1) := by decide +kernel
theorem dX11_allTired_4 : decode bX11_allTired 4 = .ok (.iload_n 2, 1) := by decide +kernel
theorem dX11_allTired_5 : decode bX11_allTired 5 = .ok (.aload_n 0, 1) := by decide +kernel
theorem dX11_allTired_6 : decode bX11_allTired 6 = .ok (.getfield 19, 3) := by decide +kernel
theorem dX11_allTired_9 : decode bX11_allTired 9 = .ok (.getfield 301, 3) := by decide +kernel
theorem dX11_allTired_12 : decode bX11_allTired 12 = .ok (.if_icmp .ge 24, 3) := by decide +kernel
theorem dX11_allTired_15 : decode bX11_allTired 15 = .ok (.iload_n 1, 1) := by decide +kernel
theorem dX11_allTired_16 : decode bX11_allTired 16 = .ok (.aload_n 0, 1) := by decide +kernel
theorem dX11_allTired_17 : decode bX11_allTired 17 = .ok (.getfield 38, 3) := by decide +kernel
theorem dX11_allTired_20 : decode bX11_allTired 20 = .ok (.getfield 337, 3) := by decide +kernel
theorem dX11_allTired_23 : decode bX11_allTired 23 = .ok (.iload_n 2, 1) := by decide +kernel
theorem dX11_allTired_24 : decode bX11_allTired 24 = .ok (.aaload, 1) := by decide +kernel
theorem dX11_allTired_25 : decode bX11_allTired 25 = .ok (.getfield 115, 3) := by decide +kernel
theorem dX11_allTired_28 : decode bX11_allTired 28 = .ok (.iadd, 1) := by decide +kernel
theorem dX11_allTired_29 : decode bX11_allTired 29 = .ok (.istore_n 1, 1) := by decide +kernel
theorem dX11_allTired_30 : decode bX11_allTired 30 = .ok (.iinc 2 1, 3) := by decide +kernel
theorem dX11_allTired_33 : decode bX11_allTired 33 = .ok (.goto (-29), 3) := by decide +kernel
theorem dX11_allTired_36 : decode bX11_allTired 36 = .ok (.iload_n 1, 1) := by decide +kernel
theorem dX11_allTired_37 : decode bX11_allTired 37 = .ok (.ireturn, 1) := by decide +kernel
set_option maxRecDepth 20000 in
set_option maxHeartbeats 4000000 in
theorem cX11_allTired {l : Launch} {k : Kx} {F : Nat} {μ μ' : Mm} {r : Int32} (hk : kok k) (e_this : kex k 11 0) (hf : fX11_allTired F μ = some (r, μ')) : MM l k 0 yX11_allTired bX11_allTired 3 (some .int) [.ref (kad k 11 0)] μ (some (.int r)) μ' := by
  refine MM.of (lv := [(0, .ref (kad k 11 0))]) (plainFor_of_name (by decide)) hk (Nat.le_of_ble_eq_true rfl) rfl (fun z hl hx => ?_)
  subst hl
  have hx : Ok z k bX11_allTired 3 "RopeDance" (some .int) 0 (0, 0) := hx
  have L4 : ∀ (n : Nat) (v1 : Int32) (v2 : Int32) (μ : Mm) (e_v0 : kex k 11 0), fX11_allTired_L4 F n v1 v2 μ = some (r, μ') → Gw z k 3 (k, (0, 0), (some .int), (some (.int r)), μ') (0, 0) 4 μ [(0, .ref (kad k 11 0)), (1, .int v1), (2, .int v2)] [] := by
    intro  n
    induction n with
    | zero =>
      intro v1 v2 μ e_v0 hf
      exact f_no (show (none : Option (Int32 × Mm)) = _ from hf)
    | succ n ih =>
      intro v1 v2 μ e_v0 hf
      rw [fX11_allTired_L4] at hf
      refine r_iloadn hx 2 rfl rfl dX11_allTired_4 ?_
      refine r_aloadn hx 0 rfl rfl dX11_allTired_5 ?_
      refine r_getT hx FK11_2 e_v0 (by decide) wf_X11_19 dX11_allTired_6 (fun e1 => ?_)
      refine r_getI hx FK8_0 e1 wf_X11_301 dX11_allTired_9 ?_
      refine r_icge (tgt := 36) hx rfl dX11_allTired_12 (fun q2 => ?_) (fun q2 => ?_)
      · have hf := (f_ite hf).1 q2
        refine r_iloadn hx 1 rfl rfl dX11_allTired_36 ?_
        exact r_iret hx hf dX11_allTired_37
      · have hf := (f_ite hf).2 q2
        refine r_iloadn hx 1 rfl rfl dX11_allTired_15 ?_
        refine r_aloadn hx 0 rfl rfl dX11_allTired_16 ?_
        refine r_getR hx (c' := 0) (i' := 0) FK11_4 e_v0 rfl wf_X11_38 dX11_allTired_17 (fun e3 => ?_)
        refine r_getR hx (c' := 20) (i' := 0) FK0_0 e3 rfl wf_X11_337 dX11_allTired_20 (fun e4 => ?_)
        refine r_iloadn hx 2 rfl rfl dX11_allTired_23 ?_
        obtain ⟨b5, hf⟩ := f_chk hf
        refine r_aald hx (c' := 5) (i' := (v2.toNatClampNeg)) (by decide) (by decide) (by decide) e4 b5 rfl rfl dX11_allTired_24 (fun e6 => ?_)
        refine r_getI hx FK5_2 e6 wf_X11_115 dX11_allTired_25 ?_
        refine r_iadd hx dX11_allTired_28 ?_
        refine r_istoren (lv' := [(1, .int (v1 + (gi μ 5 (v2.toNatClampNeg) 2))), (0, .ref (kad k 11 0)), (2, .int v2)]) hx rfl (Nat.le_of_ble_eq_true rfl) rfl dX11_allTired_29 ?_
        refine r_iinc (lv' := [(2, .int (v2 + 1)), (1, .int (v1 + (gi μ 5 (v2.toNatClampNeg) 2))), (0, .ref (kad k 11 0))]) hx 2 rfl (congrArg (fun y => v2 + y) ci_1) (Nat.le_of_ble_eq_true rfl) rfl dX11_allTired_30 ?_
        refine r_goto (tgt := 4) hx rfl dX11_allTired_33 ?_
        refine r_sub [2, 1, 0] rfl ?_
        exact ih (v1 + (gi μ 5 (v2.toNatClampNeg) 2)) (v2 + 1) μ e_v0 hf
  unfold fX11_allTired at hf
  refine r_iconst hx ci_0 dX11_allTired_0 ?_
  refine r_istoren (lv' := [(1, .int 0), (0, .ref (kad k 11 0))]) hx rfl (Nat.le_of_ble_eq_true rfl) rfl dX11_allTired_1 ?_
  refine r_iconst hx ci_0 dX11_allTired_2 ?_
  refine r_istoren (lv' := [(2, .int 0), (1, .int 0), (0, .ref (kad k 11 0))]) hx rfl (Nat.le_of_ble_eq_true rfl) rfl dX11_allTired_3 ?_
  refine r_sub [2, 1, 0] rfl ?_
  exact L4 F 0 0 μ e_this hf
theorem dX11_allCalled_0 : decode bX11_allCalled 0 = .ok (.iconst 0, 1) := by decide +kernel
theorem dX11_allCalled_1 : decode bX11_allCalled 1 = .ok (.istore_n 1, 1) := by decide +kernel
theorem dX11_allCalled_2 : decode bX11_allCalled 2 = .ok (.iconst 0, 1) := by decide +kernel
theorem dX11_allCalled_3 : decode bX11_allCalled 3 = .ok (.istore_n 2, 1) := by decide +kernel
theorem dX11_allCalled_4 : decode bX11_allCalled 4 = .ok (.iload_n 2, 1) := by decide +kernel
theorem dX11_allCalled_5 : decode bX11_allCalled 5 = .ok (.aload_n 0, 1) := by decide +kernel
theorem dX11_allCalled_6 : decode bX11_allCalled 6 = .ok (.getfield 19, 3) := by decide +kernel
theorem dX11_allCalled_9 : decode bX11_allCalled 9 = .ok (.getfield 301, 3) := by decide +kernel
theorem dX11_allCalled_12 : decode bX11_allCalled 12 = .ok (.if_icmp .ge 24, 3) := by decide +kernel
theorem dX11_allCalled_15 : decode bX11_allCalled 15 = .ok (.iload_n 1, 1) := by decide +kernel
theorem dX11_allCalled_16 : decode bX11_allCalled 16 = .ok (.aload_n 0, 1) := by decide +kernel
theorem dX11_allCalled_17 : decode bX11_allCalled 17 = .ok (.getfield 38, 3) := by decide +kernel
theorem dX11_allCalled_20 : decode bX11_allCalled 20 = .ok (.getfield 337, 3) := by decide +kernel
theorem dX11_allCalled_23 : decode bX11_allCalled 23 = .ok (.iload_n 2, 1) := by decide +kernel
theorem dX11_allCalled_24 : decode bX11_allCalled 24 = .ok (.aaload, 1) := by decide +kernel
theorem dX11_allCalled_25 : decode bX11_allCalled 25 = .ok (.getfield 125, 3) := by decide +kernel
theorem dX11_allCalled_28 : decode bX11_allCalled 28 = .ok (.iadd, 1) := by decide +kernel
theorem dX11_allCalled_29 : decode bX11_allCalled 29 = .ok (.istore_n 1, 1) := by decide +kernel
theorem dX11_allCalled_30 : decode bX11_allCalled 30 = .ok (.iinc 2 1, 3) := by decide +kernel
theorem dX11_allCalled_33 : decode bX11_allCalled 33 = .ok (.goto (-29), 3) := by decide +kernel
theorem dX11_allCalled_36 : decode bX11_allCalled 36 = .ok (.iload_n 1, 1) := by decide +kernel
theorem dX11_allCalled_37 : decode bX11_allCalled 37 = .ok (.ireturn, 1) := by decide +kernel
set_option maxRecDepth 20000 in
set_option maxHeartbeats 4000000 in
theorem cX11_allCalled {l : Launch} {k : Kx} {F : Nat} {μ μ' : Mm} {r : Int32} (hk : kok k) (e_this : kex k 11 0) (hf : fX11_allCalled F μ = some (r, μ')) : MM l k 0 yX11_allCalled bX11_allCalled 3 (some .int) [.ref (kad k 11 0)] μ (some (.int r)) μ' := by
  refine MM.of (lv := [(0, .ref (kad k 11 0))]) (plainFor_of_name (by decide)) hk (Nat.le_of_ble_eq_true rfl) rfl (fun z hl hx => ?_)
  subst hl
  have hx : Ok z k bX11_allCalled 3 "RopeDance" (some .int) 0 (0, 0) := hx
  have L4 : ∀ (n : Nat) (v1 : Int32) (v2 : Int32) (μ : Mm) (e_v0 : kex k 11 0), fX11_allCalled_L4 F n v1 v2 μ = some (r, μ') → Gw z k 3 (k, (0, 0), (some .int), (some (.int r)), μ') (0, 0) 4 μ [(0, .ref (kad k 11 0)), (1, .int v1), (2, .int v2)] [] := by
    intro  n
    induction n with
    | zero =>
      intro v1 v2 μ e_v0 hf
      exact f_no (show (none : Option (Int32 × Mm)) = _ from hf)
    | succ n ih =>
      intro v1 v2 μ e_v0 hf
      rw [fX11_allCalled_L4] at hf
      refine r_iloadn hx 2 rfl rfl dX11_allCalled_4 ?_
      refine r_aloadn hx 0 rfl rfl dX11_allCalled_5 ?_
      refine r_getT hx FK11_2 e_v0 (by decide) wf_X11_19 dX11_allCalled_6 (fun e1 => ?_)
      refine r_getI hx FK8_0 e1 wf_X11_301 dX11_allCalled_9 ?_
      refine r_icge (tgt := 36) hx rfl dX11_allCalled_12 (fun q2 => ?_) (fun q2 => ?_)
      · have hf := (f_ite hf).1 q2
        refine r_iloadn hx 1 rfl rfl dX11_allCalled_36 ?_
        exact r_iret hx hf dX11_allCalled_37
      · have hf := (f_ite hf).2 q2
        refine r_iloadn hx 1 rfl rfl dX11_allCalled_15 ?_
        refine r_aloadn hx 0 rfl rfl dX11_allCalled_16 ?_
        refine r_getR hx (c' := 0) (i' := 0) FK11_4 e_v0 rfl wf_X11_38 dX11_allCalled_17 (fun e3 => ?_)
        refine r_getR hx (c' := 20) (i' := 0) FK0_0 e3 rfl wf_X11_337 dX11_allCalled_20 (fun e4 => ?_)
        refine r_iloadn hx 2 rfl rfl dX11_allCalled_23 ?_
        obtain ⟨b5, hf⟩ := f_chk hf
        refine r_aald hx (c' := 5) (i' := (v2.toNatClampNeg)) (by decide) (by decide) (by decide) e4 b5 rfl rfl dX11_allCalled_24 (fun e6 => ?_)
        refine r_getI hx FK5_3 e6 wf_X11_125 dX11_allCalled_25 ?_
        refine r_iadd hx dX11_allCalled_28 ?_
        refine r_istoren (lv' := [(1, .int (v1 + (gi μ 5 (v2.toNatClampNeg) 3))), (0, .ref (kad k 11 0)), (2, .int v2)]) hx rfl (Nat.le_of_ble_eq_true rfl) rfl dX11_allCalled_29 ?_
        refine r_iinc (lv' := [(2, .int (v2 + 1)), (1, .int (v1 + (gi μ 5 (v2.toNatClampNeg) 3))), (0, .ref (kad k 11 0))]) hx 2 rfl (congrArg (fun y => v2 + y) ci_1) (Nat.le_of_ble_eq_true rfl) rfl dX11_allCalled_30 ?_
        refine r_goto (tgt := 4) hx rfl dX11_allCalled_33 ?_
        refine r_sub [2, 1, 0] rfl ?_
        exact ih (v1 + (gi μ 5 (v2.toNatClampNeg) 3)) (v2 + 1) μ e_v0 hf
  unfold fX11_allCalled at hf
  refine r_iconst hx ci_0 dX11_allCalled_0 ?_
  refine r_istoren (lv' := [(1, .int 0), (0, .ref (kad k 11 0))]) hx rfl (Nat.le_of_ble_eq_true rfl) rfl dX11_allCalled_1 ?_
  refine r_iconst hx ci_0 dX11_allCalled_2 ?_
  refine r_istoren (lv' := [(2, .int 0), (1, .int 0), (0, .ref (kad k 11 0))]) hx rfl (Nat.le_of_ble_eq_true rfl) rfl dX11_allCalled_3 ?_
  refine r_sub [2, 1, 0] rfl ?_
  exact L4 F 0 0 μ e_this hf
theorem dX11_squaresOfEnds_0 : decode bX11_squaresOfEnds 0 = .ok (.iconst 0, 1) := by decide +kernel
theorem dX11_squaresOfEnds_1 : decode bX11_squaresOfEnds 1 = .ok (.istore_n 2, 1) := by decide +kernel
theorem dX11_squaresOfEnds_2 : decode bX11_squaresOfEnds 2 = .ok (.iconst 0, 1) := by decide +kernel
theorem dX11_squaresOfEnds_3 : decode bX11_squaresOfEnds 3 = .ok (.istore_n 3, 1) := by decide +kernel
theorem dX11_squaresOfEnds_4 : decode bX11_squaresOfEnds 4 = .ok (.iload_n 3, 1) := by decide +kernel
theorem dX11_squaresOfEnds_5 : decode bX11_squaresOfEnds 5 = .ok (.aload_n 0, 1) := by decide +kernel
theorem dX11_squaresOfEnds_6 : decode bX11_squaresOfEnds 6 = .ok (.getfield 19, 3) := by decide +kernel
theorem dX11_squaresOfEnds_9 : decode bX11_squaresOfEnds 9 = .ok (.getfield 301, 3) := by decide +kernel
theorem dX11_squaresOfEnds_12 : decode bX11_squaresOfEnds 12 = .ok (.if_icmp .ge 31, 3) := by decide +kernel
theorem dX11_squaresOfEnds_15 : decode bX11_squaresOfEnds 15 = .ok (.aload_n 0, 1) := by decide +kernel
theorem dX11_squaresOfEnds_16 : decode bX11_squaresOfEnds 16 = .ok (.getfield 38, 3) := by decide +kernel
theorem dX11_squaresOfEnds_19 : decode bX11_squaresOfEnds 19 = .ok (.getfield 337, 3) := by decide +kernel
theorem dX11_squaresOfEnds_22 : decode bX11_squaresOfEnds 22 = .ok (.iload_n 3, 1) := by decide +kernel
theorem dX11_squaresOfEnds_23 : decode bX11_squaresOfEnds 23 = .ok (.aaload, 1) := by decide +kernel
theorem dX11_squaresOfEnds_24 : decode bX11_squaresOfEnds 24 = .ok (.invokevirtual 112, 3) := by decide +kernel
theorem dX11_squaresOfEnds_27 : decode bX11_squaresOfEnds 27 = .ok (.iload_n 1, 1) := by decide +kernel
theorem dX11_squaresOfEnds_28 : decode bX11_squaresOfEnds 28 = .ok (.if_icmp .ne 9, 3) := by decide +kernel
theorem dX11_squaresOfEnds_31 : decode bX11_squaresOfEnds 31 = .ok (.iload_n 2, 1) := by decide +kernel
theorem dX11_squaresOfEnds_32 : decode bX11_squaresOfEnds 32 = .ok (.iconst 1, 1) := by decide +kernel
theorem dX11_squaresOfEnds_33 : decode bX11_squaresOfEnds 33 = .ok (.iload_n 3, 1) := by decide +kernel
theorem dX11_squaresOfEnds_34 : decode bX11_squaresOfEnds 34 = .ok (.ishl, 1) := by decide +kernel
theorem dX11_squaresOfEnds_35 : decode bX11_squaresOfEnds 35 = .ok (.ior, 1) := by decide +kernel
theorem dX11_squaresOfEnds_36 : decode bX11_squaresOfEnds 36 = .ok (.istore_n 2, 1) := by decide +kernel
theorem dX11_squaresOfEnds_37 : decode bX11_squaresOfEnds 37 = .ok (.iinc 3 1, 3) := by decide +kernel
theorem dX11_squaresOfEnds_40 : decode bX11_squaresOfEnds 40 = .ok (.goto (-36), 3) := by decide +kernel
theorem dX11_squaresOfEnds_43 : decode bX11_squaresOfEnds 43 = .ok (.iload_n 2, 1) := by decide +kernel
theorem dX11_squaresOfEnds_44 : decode bX11_squaresOfEnds 44 = .ok (.ireturn, 1) := by decide +kernel
set_option maxRecDepth 20000 in
set_option maxHeartbeats 4000000 in
theorem cX11_squaresOfEnds {l : Launch} {k : Kx} {F : Nat} {a1 : Int32} {μ μ' : Mm} {r : Int32} (hk : kok k) (e_this : kex k 11 0) (hf : fX11_squaresOfEnds F a1 μ = some (r, μ')) : MM l k 2 yX11_squaresOfEnds bX11_squaresOfEnds 4 (some .int) [.ref (kad k 11 0), .int a1] μ (some (.int r)) μ' := by
  refine MM.of (lv := [(0, .ref (kad k 11 0)), (1, .int a1)]) (plainFor_of_name (by decide)) hk (Nat.le_of_ble_eq_true rfl) rfl (fun z hl hx => ?_)
  subst hl
  have hx : Ok z k bX11_squaresOfEnds 4 "RopeDance" (some .int) 2 (0, 0) := hx
  have L37 : ∀ (K4 : Int32 → Int32 → Int32 → Mm → Option (Int32 × Mm)) (HK4 : ∀ (v1 : Int32) (v2 : Int32) (v3 : Int32) (μ : Mm) (e_v0 : kex k 11 0), K4 v1 v2 v3 μ = some (r, μ') → Gw z k 4 (k, (0, 0), (some .int), (some (.int r)), μ') (0, 0) 4 μ [(0, .ref (kad k 11 0)), (1, .int v1), (2, .int v2), (3, .int v3)] []) (v1 : Int32) (v2 : Int32) (v3 : Int32) (μ : Mm) (e_v0 : kex k 11 0), fX11_squaresOfEnds_L37 F K4 v1 v2 v3 μ = some (r, μ') → Gw z k 4 (k, (0, 0), (some .int), (some (.int r)), μ') (0, 0) 37 μ [(0, .ref (kad k 11 0)), (1, .int v1), (2, .int v2), (3, .int v3)] [] := by
    intro K4 HK4 v1 v2 v3 μ e_v0 hf
    unfold fX11_squaresOfEnds_L37 at hf
    refine r_iinc (lv' := [(3, .int (v3 + 1)), (0, .ref (kad k 11 0)), (1, .int v1), (2, .int v2)]) hx 3 rfl (congrArg (fun y => v3 + y) ci_1) (Nat.le_of_ble_eq_true rfl) rfl dX11_squaresOfEnds_37 ?_
    refine r_goto (tgt := 4) hx rfl dX11_squaresOfEnds_40 ?_
    refine r_sub [1, 2, 3, 0] rfl ?_
    exact HK4 v1 v2 (v3 + 1) μ e_v0 hf
  have L4 : ∀ (n : Nat) (v1 : Int32) (v2 : Int32) (v3 : Int32) (μ : Mm) (e_v0 : kex k 11 0), fX11_squaresOfEnds_L4 F n v1 v2 v3 μ = some (r, μ') → Gw z k 4 (k, (0, 0), (some .int), (some (.int r)), μ') (0, 0) 4 μ [(0, .ref (kad k 11 0)), (1, .int v1), (2, .int v2), (3, .int v3)] [] := by
    intro  n
    induction n with
    | zero =>
      intro v1 v2 v3 μ e_v0 hf
      exact f_no (show (none : Option (Int32 × Mm)) = _ from hf)
    | succ n ih =>
      intro v1 v2 v3 μ e_v0 hf
      rw [fX11_squaresOfEnds_L4] at hf
      refine r_iloadn hx 3 rfl rfl dX11_squaresOfEnds_4 ?_
      refine r_aloadn hx 0 rfl rfl dX11_squaresOfEnds_5 ?_
      refine r_getT hx FK11_2 e_v0 (by decide) wf_X11_19 dX11_squaresOfEnds_6 (fun e1 => ?_)
      refine r_getI hx FK8_0 e1 wf_X11_301 dX11_squaresOfEnds_9 ?_
      refine r_icge (tgt := 43) hx rfl dX11_squaresOfEnds_12 (fun q2 => ?_) (fun q2 => ?_)
      · have hf := (f_ite hf).1 q2
        refine r_iloadn hx 2 rfl rfl dX11_squaresOfEnds_43 ?_
        exact r_iret hx hf dX11_squaresOfEnds_44
      · have hf := (f_ite hf).2 q2
        refine r_aloadn hx 0 rfl rfl dX11_squaresOfEnds_15 ?_
        refine r_getR hx (c' := 0) (i' := 0) FK11_4 e_v0 rfl wf_X11_38 dX11_squaresOfEnds_16 (fun e3 => ?_)
        refine r_getR hx (c' := 20) (i' := 0) FK0_0 e3 rfl wf_X11_337 dX11_squaresOfEnds_19 (fun e4 => ?_)
        refine r_iloadn hx 3 rfl rfl dX11_squaresOfEnds_22 ?_
        obtain ⟨b5, hf⟩ := f_chk hf
        refine r_aald hx (c' := 5) (i' := (v3.toNatClampNeg)) (by decide) (by decide) (by decide) e4 b5 rfl rfl dX11_squaresOfEnds_23 (fun e6 => ?_)
        obtain ⟨r9, μ8, c7, hf⟩ := f_bd2 hf
        refine r_callV hx (As := []) (rest := []) (st1 := [.int r9]) (c := 5) (i := (v3.toNatClampNeg)) (TT := T5) (N := 4) MK_X5_ends rfl wi_X5_ends we_X5_ends wm_X11_112 ⟨Nat.le_refl _, Nat.le_refl _⟩ (cX5_ends hk e6 c7) e6 (Nat.le_of_ble_eq_true rfl) rfl rfl (Nat.le_of_ble_eq_true rfl) rfl dX11_squaresOfEnds_24 (fun hb10 => ?_)
        refine r_iloadn hx 1 rfl rfl dX11_squaresOfEnds_27 ?_
        refine r_icne (tgt := 37) hx rfl dX11_squaresOfEnds_28 (fun q11 => ?_) (fun q11 => ?_)
        · have hf := (f_ite hf).2 q11
          refine r_sub [0, 1, 2, 3] rfl ?_
          exact L37 _ ih  v1 v2 v3 μ8 e_v0 hf
        · have hf := (f_ite hf).1 q11
          refine r_iloadn hx 2 rfl rfl dX11_squaresOfEnds_31 ?_
          refine r_iconst hx ci_1 dX11_squaresOfEnds_32 ?_
          refine r_iloadn hx 3 rfl rfl dX11_squaresOfEnds_33 ?_
          refine r_ishl hx dX11_squaresOfEnds_34 ?_
          refine r_ior hx dX11_squaresOfEnds_35 ?_
          refine r_istoren (lv' := [(2, .int (v2 ||| (1 <<< (v3 &&& 31)))), (0, .ref (kad k 11 0)), (1, .int v1), (3, .int v3)]) hx rfl (Nat.le_of_ble_eq_true rfl) rfl dX11_squaresOfEnds_36 ?_
          refine r_sub [1, 2, 0, 3] rfl ?_
          exact L37 _ ih  v1 (v2 ||| (1 <<< (v3 &&& 31))) v3 μ8 e_v0 hf
  unfold fX11_squaresOfEnds at hf
  refine r_iconst hx ci_0 dX11_squaresOfEnds_0 ?_
  refine r_istoren (lv' := [(2, .int 0), (0, .ref (kad k 11 0)), (1, .int a1)]) hx rfl (Nat.le_of_ble_eq_true rfl) rfl dX11_squaresOfEnds_1 ?_
  refine r_iconst hx ci_0 dX11_squaresOfEnds_2 ?_
  refine r_istoren (lv' := [(3, .int 0), (2, .int 0), (0, .ref (kad k 11 0)), (1, .int a1)]) hx rfl (Nat.le_of_ble_eq_true rfl) rfl dX11_squaresOfEnds_3 ?_
  refine r_sub [2, 3, 1, 0] rfl ?_
  exact L4 F a1 0 0 μ e_this hf
theorem dX11_count_0 : decode bX11_count 0 = .ok (.iload_n 1, 1) := by decide +kernel
theorem dX11_count_1 : decode bX11_count 1 = .ok (.tableswitch 167 0 13 #[71, 79, 87, 95, 103, 108, 113, 118, 123, 131, 139, 147, 155, 161], 71) := by decide +kernel
theorem dX11_count_72 : decode bX11_count 72 = .ok (.aload_n 0, 1) := by decide +kernel
theorem dX11_count_73 : decode bX11_count 73 = .ok (.getfield 19, 3) := by decide +kernel
theorem dX11_count_76 : decode bX11_count 76 = .ok (.getfield 301, 3) := by decide +kernel
theorem dX11_count_79 : decode bX11_count 79 = .ok (.ireturn, 1) := by decide +kernel
theorem dX11_count_80 : decode bX11_count 80 = .ok (.aload_n 0, 1) := by decide +kernel
theorem dX11_count_81 : decode bX11_count 81 = .ok (.getfield 19, 3) := by decide +kernel
theorem dX11_count_84 : decode bX11_count 84 = .ok (.getfield 256, 3) := by decide +kernel
theorem dX11_count_87 : decode bX11_count 87 = .ok (.ireturn, 1) := by decide +kernel
theorem dX11_count_88 : decode bX11_count 88 = .ok (.aload_n 0, 1) := by decide +kernel
theorem dX11_count_89 : decode bX11_count 89 = .ok (.getfield 38, 3) := by decide +kernel
theorem dX11_count_92 : decode bX11_count 92 = .ok (.getfield 118, 3) := by decide +kernel
theorem dX11_count_95 : decode bX11_count 95 = .ok (.ireturn, 1) := by decide +kernel
theorem dX11_count_96 : decode bX11_count 96 = .ok (.aload_n 0, 1) := by decide +kernel
theorem dX11_count_97 : decode bX11_count 97 = .ok (.getfield 38, 3) := by decide +kernel
theorem dX11_count_100 : decode bX11_count 100 = .ok (.getfield 304, 3) := by decide +kernel
theorem dX11_count_103 : decode bX11_count 103 = .ok (.ireturn, 1) := by decide +kernel
theorem dX11_count_104 : decode bX11_count 104 = .ok (.aload_n 0, 1) := by decide +kernel
theorem dX11_count_105 : decode bX11_count 105 = .ok (.invokevirtual 307, 3) := by decide +kernel
theorem dX11_count_108 : decode bX11_count 108 = .ok (.ireturn, 1) := by decide +kernel
theorem dX11_count_109 : decode bX11_count 109 = .ok (.aload_n 0, 1) := by decide +kernel
theorem dX11_count_110 : decode bX11_count 110 = .ok (.invokevirtual 310, 3) := by decide +kernel
theorem dX11_count_113 : decode bX11_count 113 = .ok (.ireturn, 1) := by decide +kernel
theorem dX11_count_114 : decode bX11_count 114 = .ok (.aload_n 0, 1) := by decide +kernel
theorem dX11_count_115 : decode bX11_count 115 = .ok (.invokevirtual 313, 3) := by decide +kernel
theorem dX11_count_118 : decode bX11_count 118 = .ok (.ireturn, 1) := by decide +kernel
theorem dX11_count_119 : decode bX11_count 119 = .ok (.aload_n 0, 1) := by decide +kernel
theorem dX11_count_120 : decode bX11_count 120 = .ok (.invokevirtual 316, 3) := by decide +kernel
theorem dX11_count_123 : decode bX11_count 123 = .ok (.ireturn, 1) := by decide +kernel
theorem dX11_count_124 : decode bX11_count 124 = .ok (.aload_n 0, 1) := by decide +kernel
theorem dX11_count_125 : decode bX11_count 125 = .ok (.getfield 10, 3) := by decide +kernel
theorem dX11_count_128 : decode bX11_count 128 = .ok (.getfield 81, 3) := by decide +kernel
theorem dX11_count_131 : decode bX11_count 131 = .ok (.ireturn, 1) := by decide +kernel
theorem dX11_count_132 : decode bX11_count 132 = .ok (.aload_n 0, 1) := by decide +kernel
theorem dX11_count_133 : decode bX11_count 133 = .ok (.getfield 45, 3) := by decide +kernel
theorem dX11_count_136 : decode bX11_count 136 = .ok (.getfield 319, 3) := by decide +kernel
theorem dX11_count_139 : decode bX11_count 139 = .ok (.ireturn, 1) := by decide +kernel
theorem dX11_count_140 : decode bX11_count 140 = .ok (.aload_n 0, 1) := by decide +kernel
theorem dX11_count_141 : decode bX11_count 141 = .ok (.getfield 52, 3) := by decide +kernel
theorem dX11_count_144 : decode bX11_count 144 = .ok (.getfield 277, 3) := by decide +kernel
theorem dX11_count_147 : decode bX11_count 147 = .ok (.ireturn, 1) := by decide +kernel
theorem dX11_count_148 : decode bX11_count 148 = .ok (.aload_n 0, 1) := by decide +kernel
theorem dX11_count_149 : decode bX11_count 149 = .ok (.getfield 45, 3) := by decide +kernel
theorem dX11_count_152 : decode bX11_count 152 = .ok (.invokevirtual 320, 3) := by decide +kernel
theorem dX11_count_155 : decode bX11_count 155 = .ok (.ireturn, 1) := by decide +kernel
theorem dX11_count_156 : decode bX11_count 156 = .ok (.aload_n 0, 1) := by decide +kernel
theorem dX11_count_157 : decode bX11_count 157 = .ok (.iconst 0, 1) := by decide +kernel
theorem dX11_count_158 : decode bX11_count 158 = .ok (.invokevirtual 323, 3) := by decide +kernel
theorem dX11_count_161 : decode bX11_count 161 = .ok (.ireturn, 1) := by decide +kernel
theorem dX11_count_162 : decode bX11_count 162 = .ok (.aload_n 0, 1) := by decide +kernel
theorem dX11_count_163 : decode bX11_count 163 = .ok (.iconst 2, 1) := by decide +kernel
theorem dX11_count_164 : decode bX11_count 164 = .ok (.invokevirtual 323, 3) := by decide +kernel
theorem dX11_count_167 : decode bX11_count 167 = .ok (.ireturn, 1) := by decide +kernel
theorem dX11_count_168 : decode bX11_count 168 = .ok (.iconst (-1), 1) := by decide +kernel
theorem dX11_count_169 : decode bX11_count 169 = .ok (.ireturn, 1) := by decide +kernel
set_option maxRecDepth 20000 in
set_option maxHeartbeats 4000000 in
theorem cX11_count {l : Launch} {k : Kx} {F : Nat} {a1 : Int32} {μ μ' : Mm} {r : Int32} (hk : kok k) (e_this : kex k 11 0) (hf : fX11_count F a1 μ = some (r, μ')) : MM l k 3 yX11_count bX11_count 2 (some .int) [.ref (kad k 11 0), .int a1] μ (some (.int r)) μ' := by
  refine MM.of (lv := [(0, .ref (kad k 11 0)), (1, .int a1)]) (plainFor_of_name (by decide)) hk (Nat.le_of_ble_eq_true rfl) rfl (fun z hl hx => ?_)
  subst hl
  have hx : Ok z k bX11_count 2 "RopeDance" (some .int) 3 (0, 0) := hx
  unfold fX11_count at hf
  refine r_iloadn hx 1 rfl rfl dX11_count_0 ?_
  by_cases q1 : a1 = 0
  · have hf := (f_ite hf).1 q1
    refine r_tableIn (off := 71) (tgt := 72) hx (by rw [q1]; decide) (by rw [q1]; decide) (by rw [q1]; rfl) rfl dX11_count_1 ?_
    refine r_aloadn hx 0 rfl rfl dX11_count_72 ?_
    refine r_getT hx FK11_2 e_this (by decide) wf_X11_19 dX11_count_73 (fun e2 => ?_)
    refine r_getI hx FK8_0 e2 wf_X11_301 dX11_count_76 ?_
    exact r_iret hx hf dX11_count_79
  · have hf := (f_ite hf).2 q1
    by_cases q3 : a1 = 1
    · have hf := (f_ite hf).1 q3
      refine r_tableIn (off := 79) (tgt := 80) hx (by rw [q3]; decide) (by rw [q3]; decide) (by rw [q3]; rfl) rfl dX11_count_1 ?_
      refine r_aloadn hx 0 rfl rfl dX11_count_80 ?_
      refine r_getT hx FK11_2 e_this (by decide) wf_X11_19 dX11_count_81 (fun e4 => ?_)
      refine r_getI hx FK8_1 e4 wf_X11_256 dX11_count_84 ?_
      exact r_iret hx hf dX11_count_87
    · have hf := (f_ite hf).2 q3
      by_cases q5 : a1 = 2
      · have hf := (f_ite hf).1 q5
        refine r_tableIn (off := 87) (tgt := 88) hx (by rw [q5]; decide) (by rw [q5]; decide) (by rw [q5]; rfl) rfl dX11_count_1 ?_
        refine r_aloadn hx 0 rfl rfl dX11_count_88 ?_
        refine r_getR hx (c' := 0) (i' := 0) FK11_4 e_this rfl wf_X11_38 dX11_count_89 (fun e6 => ?_)
        refine r_getI hx FK0_1 e6 wf_X11_118 dX11_count_92 ?_
        exact r_iret hx hf dX11_count_95
      · have hf := (f_ite hf).2 q5
        by_cases q7 : a1 = 3
        · have hf := (f_ite hf).1 q7
          refine r_tableIn (off := 95) (tgt := 96) hx (by rw [q7]; decide) (by rw [q7]; decide) (by rw [q7]; rfl) rfl dX11_count_1 ?_
          refine r_aloadn hx 0 rfl rfl dX11_count_96 ?_
          refine r_getR hx (c' := 0) (i' := 0) FK11_4 e_this rfl wf_X11_38 dX11_count_97 (fun e8 => ?_)
          refine r_getI hx FK0_2 e8 wf_X11_304 dX11_count_100 ?_
          exact r_iret hx hf dX11_count_103
        · have hf := (f_ite hf).2 q7
          by_cases q9 : a1 = 4
          · have hf := (f_ite hf).1 q9
            refine r_tableIn (off := 103) (tgt := 104) hx (by rw [q9]; decide) (by rw [q9]; decide) (by rw [q9]; rfl) rfl dX11_count_1 ?_
            refine r_aloadn hx 0 rfl rfl dX11_count_104 ?_
            obtain ⟨r12, μ11, c10, hf⟩ := f_bd2 hf
            refine r_callV hx (As := []) (rest := []) (st1 := [.int r12]) (c := 11) (i := 0) (TT := T11) (N := 12) MK_X11_allCrossings rfl wi_X11_allCrossings we_X11_allCrossings wm_X11_307 ⟨Nat.le_refl _, Nat.le_refl _⟩ (cX11_allCrossings hk e_this c10) e_this (Nat.le_of_ble_eq_true rfl) rfl rfl (Nat.le_of_ble_eq_true rfl) rfl dX11_count_105 (fun hb13 => ?_)
            exact r_iret hx hf dX11_count_108
          · have hf := (f_ite hf).2 q9
            by_cases q14 : a1 = 5
            · have hf := (f_ite hf).1 q14
              refine r_tableIn (off := 108) (tgt := 109) hx (by rw [q14]; decide) (by rw [q14]; decide) (by rw [q14]; rfl) rfl dX11_count_1 ?_
              refine r_aloadn hx 0 rfl rfl dX11_count_109 ?_
              obtain ⟨r17, μ16, c15, hf⟩ := f_bd2 hf
              refine r_callV hx (As := []) (rest := []) (st1 := [.int r17]) (c := 11) (i := 0) (TT := T11) (N := 12) MK_X11_undoneSquares rfl wi_X11_undoneSquares we_X11_undoneSquares wm_X11_310 ⟨Nat.le_refl _, Nat.le_refl _⟩ (cX11_undoneSquares hk e_this c15) e_this (Nat.le_of_ble_eq_true rfl) rfl rfl (Nat.le_of_ble_eq_true rfl) rfl dX11_count_110 (fun hb18 => ?_)
              exact r_iret hx hf dX11_count_113
            · have hf := (f_ite hf).2 q14
              by_cases q19 : a1 = 6
              · have hf := (f_ite hf).1 q19
                refine r_tableIn (off := 113) (tgt := 114) hx (by rw [q19]; decide) (by rw [q19]; decide) (by rw [q19]; rfl) rfl dX11_count_1 ?_
                refine r_aloadn hx 0 rfl rfl dX11_count_114 ?_
                obtain ⟨r22, μ21, c20, hf⟩ := f_bd2 hf
                refine r_callV hx (As := []) (rest := []) (st1 := [.int r22]) (c := 11) (i := 0) (TT := T11) (N := 12) MK_X11_allTired rfl wi_X11_allTired we_X11_allTired wm_X11_313 ⟨Nat.le_refl _, Nat.le_refl _⟩ (cX11_allTired hk e_this c20) e_this (Nat.le_of_ble_eq_true rfl) rfl rfl (Nat.le_of_ble_eq_true rfl) rfl dX11_count_115 (fun hb23 => ?_)
                exact r_iret hx hf dX11_count_118
              · have hf := (f_ite hf).2 q19
                by_cases q24 : a1 = 7
                · have hf := (f_ite hf).1 q24
                  refine r_tableIn (off := 118) (tgt := 119) hx (by rw [q24]; decide) (by rw [q24]; decide) (by rw [q24]; rfl) rfl dX11_count_1 ?_
                  refine r_aloadn hx 0 rfl rfl dX11_count_119 ?_
                  obtain ⟨r27, μ26, c25, hf⟩ := f_bd2 hf
                  refine r_callV hx (As := []) (rest := []) (st1 := [.int r27]) (c := 11) (i := 0) (TT := T11) (N := 12) MK_X11_allCalled rfl wi_X11_allCalled we_X11_allCalled wm_X11_316 ⟨Nat.le_refl _, Nat.le_refl _⟩ (cX11_allCalled hk e_this c25) e_this (Nat.le_of_ble_eq_true rfl) rfl rfl (Nat.le_of_ble_eq_true rfl) rfl dX11_count_120 (fun hb28 => ?_)
                  exact r_iret hx hf dX11_count_123
                · have hf := (f_ite hf).2 q24
                  by_cases q29 : a1 = 8
                  · have hf := (f_ite hf).1 q29
                    refine r_tableIn (off := 123) (tgt := 124) hx (by rw [q29]; decide) (by rw [q29]; decide) (by rw [q29]; rfl) rfl dX11_count_1 ?_
                    refine r_aloadn hx 0 rfl rfl dX11_count_124 ?_
                    refine r_getR hx (c' := 7) (i' := 0) FK11_0 e_this rfl wf_X11_10 dX11_count_125 (fun e30 => ?_)
                    refine r_getI hx FK7_0 e30 wf_X11_81 dX11_count_128 ?_
                    exact r_iret hx hf dX11_count_131
                  · have hf := (f_ite hf).2 q29
                    by_cases q31 : a1 = 9
                    · have hf := (f_ite hf).1 q31
                      refine r_tableIn (off := 131) (tgt := 132) hx (by rw [q31]; decide) (by rw [q31]; decide) (by rw [q31]; rfl) rfl dX11_count_1 ?_
                      refine r_aloadn hx 0 rfl rfl dX11_count_132 ?_
                      refine r_getR hx (c' := 1) (i' := 0) FK11_5 e_this rfl wf_X11_45 dX11_count_133 (fun e32 => ?_)
                      refine r_getI hx FK1_0 e32 wf_X11_319 dX11_count_136 ?_
                      exact r_iret hx hf dX11_count_139
                    · have hf := (f_ite hf).2 q31
                      by_cases q33 : a1 = 10
                      · have hf := (f_ite hf).1 q33
                        refine r_tableIn (off := 139) (tgt := 140) hx (by rw [q33]; decide) (by rw [q33]; decide) (by rw [q33]; rfl) rfl dX11_count_1 ?_
                        refine r_aloadn hx 0 rfl rfl dX11_count_140 ?_
                        refine r_getR hx (c' := 9) (i' := 0) FK11_6 e_this rfl wf_X11_52 dX11_count_141 (fun e34 => ?_)
                        refine r_getI hx FK9_0 e34 wf_X11_277 dX11_count_144 ?_
                        exact r_iret hx hf dX11_count_147
                      · have hf := (f_ite hf).2 q33
                        by_cases q35 : a1 = 11
                        · have hf := (f_ite hf).1 q35
                          refine r_tableIn (off := 147) (tgt := 148) hx (by rw [q35]; decide) (by rw [q35]; decide) (by rw [q35]; rfl) rfl dX11_count_1 ?_
                          refine r_aloadn hx 0 rfl rfl dX11_count_148 ?_
                          refine r_getR hx (c' := 1) (i' := 0) FK11_5 e_this rfl wf_X11_45 dX11_count_149 (fun e36 => ?_)
                          obtain ⟨r39, μ38, c37, hf⟩ := f_bd2 hf
                          refine r_callV hx (As := []) (rest := []) (st1 := [.int r39]) (c := 1) (i := 0) (TT := T1) (N := 5) MK_X1_heldSlots rfl wi_X1_heldSlots we_X1_heldSlots wm_X11_320 ⟨Nat.le_refl _, Nat.le_refl _⟩ (cX1_heldSlots hk e36 c37) e36 (Nat.le_of_ble_eq_true rfl) rfl rfl (Nat.le_of_ble_eq_true rfl) rfl dX11_count_152 (fun hb40 => ?_)
                          exact r_iret hx hf dX11_count_155
                        · have hf := (f_ite hf).2 q35
                          by_cases q41 : a1 = 12
                          · have hf := (f_ite hf).1 q41
                            refine r_tableIn (off := 155) (tgt := 156) hx (by rw [q41]; decide) (by rw [q41]; decide) (by rw [q41]; rfl) rfl dX11_count_1 ?_
                            refine r_aloadn hx 0 rfl rfl dX11_count_156 ?_
                            refine r_iconst hx ci_0 dX11_count_157 ?_
                            obtain ⟨r44, μ43, c42, hf⟩ := f_bd2 hf
                            refine r_callV hx (As := [.int 0]) (rest := []) (st1 := [.int r44]) (c := 11) (i := 0) (TT := T11) (N := 12) MK_X11_squaresOfEnds rfl wi_X11_squaresOfEnds we_X11_squaresOfEnds wm_X11_323 ⟨Nat.le_refl _, Nat.le_refl _⟩ (cX11_squaresOfEnds hk e_this c42) e_this (Nat.le_of_ble_eq_true rfl) rfl rfl (Nat.le_of_ble_eq_true rfl) rfl dX11_count_158 (fun hb45 => ?_)
                            exact r_iret hx hf dX11_count_161
                          · have hf := (f_ite hf).2 q41
                            by_cases q46 : a1 = 13
                            · have hf := (f_ite hf).1 q46
                              refine r_tableIn (off := 161) (tgt := 162) hx (by rw [q46]; decide) (by rw [q46]; decide) (by rw [q46]; rfl) rfl dX11_count_1 ?_
                              refine r_aloadn hx 0 rfl rfl dX11_count_162 ?_
                              refine r_iconst hx ci_2 dX11_count_163 ?_
                              obtain ⟨r49, μ48, c47, hf⟩ := f_bd2 hf
                              refine r_callV hx (As := [.int 2]) (rest := []) (st1 := [.int r49]) (c := 11) (i := 0) (TT := T11) (N := 12) MK_X11_squaresOfEnds rfl wi_X11_squaresOfEnds we_X11_squaresOfEnds wm_X11_323 ⟨Nat.le_refl _, Nat.le_refl _⟩ (cX11_squaresOfEnds hk e_this c47) e_this (Nat.le_of_ble_eq_true rfl) rfl rfl (Nat.le_of_ble_eq_true rfl) rfl dX11_count_164 (fun hb50 => ?_)
                              exact r_iret hx hf dX11_count_167
                            · have hf := (f_ite hf).2 q46
                              have tq1 := lv_neT (a := 0) q1 (by decide)
                              have tq3 := lv_neT (a := 1) q3 (by decide)
                              have tq5 := lv_neT (a := 2) q5 (by decide)
                              have tq7 := lv_neT (a := 3) q7 (by decide)
                              have tq9 := lv_neT (a := 4) q9 (by decide)
                              have tq14 := lv_neT (a := 5) q14 (by decide)
                              have tq19 := lv_neT (a := 6) q19 (by decide)
                              have tq24 := lv_neT (a := 7) q24 (by decide)
                              have tq29 := lv_neT (a := 8) q29 (by decide)
                              have tq31 := lv_neT (a := 9) q31 (by decide)
                              have tq33 := lv_neT (a := 10) q33 (by decide)
                              have tq35 := lv_neT (a := 11) q35 (by decide)
                              have tq41 := lv_neT (a := 12) q41 (by decide)
                              have tq46 := lv_neT (a := 13) q46 (by decide)
                              refine r_tableOut (tgt := 168) hx (by omega) rfl dX11_count_1 ?_
                              refine r_iconst hx ci_m1 dX11_count_168 ?_
                              exact r_iret hx hf dX11_count_169
