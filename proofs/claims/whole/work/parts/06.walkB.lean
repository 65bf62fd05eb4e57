theorem dX7_byteAt_0 : decode bX7_byteAt 0 = .ok (.iload_n 1, 1) := by decide +kernel
theorem dX7_byteAt_1 : decode bX7_byteAt 1 = .ok (.ifCond .lt 20, 3) := by decide +kernel
theorem dX7_byteAt_4 : decode bX7_byteAt 4 = .ok (.iload_n 1, 1) := by decide +kernel
theorem dX7_byteAt_5 : decode bX7_byteAt 5 = .ok (.aload_n 0, 1) := by decide +kernel
theorem dX7_byteAt_6 : decode bX7_byteAt 6 = .ok (.getfield 27, 3) := by decide +kernel
theorem dX7_byteAt_9 : decode bX7_byteAt 9 = .ok (.if_icmp .ge 12, 3) := by decide +kernel
theorem dX7_byteAt_12 : decode bX7_byteAt 12 = .ok (.aload_n 0, 1) := by decide +kernel
theorem dX7_byteAt_13 : decode bX7_byteAt 13 = .ok (.getfield 9, 3) := by decide +kernel
theorem dX7_byteAt_16 : decode bX7_byteAt 16 = .ok (.iload_n 1, 1) := by decide +kernel
theorem dX7_byteAt_17 : decode bX7_byteAt 17 = .ok (.baload, 1) := by decide +kernel
theorem dX7_byteAt_18 : decode bX7_byteAt 18 = .ok (.goto 4, 3) := by decide +kernel
theorem dX7_byteAt_21 : decode bX7_byteAt 21 = .ok (.iconst 0, 1) := by decide +kernel
theorem dX7_byteAt_22 : decode bX7_byteAt 22 = .ok (.ireturn, 1) := by decide +kernel
set_option maxRecDepth 20000 in
set_option maxHeartbeats 4000000 in
theorem cX7_byteAt {l : Launch} {k : Kx} {F : Nat} {a1 : Int32} {μ μ' : Mm} {r : Int32} (hk : kok k) (e_this : kex k 7 0) (hf : fX7_byteAt F a1 μ = some (r, μ')) : MM l k 0 yX7_byteAt bX7_byteAt 2 (some .int) [.ref (kad k 7 0), .int a1] μ (some (.int r)) μ' := by
  refine MM.of (lv := [(0, .ref (kad k 7 0)), (1, .int a1)]) (plainFor_of_name (by decide)) hk (Nat.le_of_ble_eq_true rfl) rfl (fun z hl hx => ?_)
  subst hl
  have hx : Ok z k bX7_byteAt 2 "RopeDance$Tape" (some .int) 0 (0, 0) := hx
  unfold fX7_byteAt at hf
  refine r_iloadn hx 1 rfl rfl dX7_byteAt_0 ?_
  refine r_iflt (tgt := 21) hx rfl dX7_byteAt_1 (fun q1 => ?_) (fun q1 => ?_)
  · have hf := (f_ite hf).1 q1
    refine r_iconst hx ci_0 dX7_byteAt_21 ?_
    exact r_iret hx hf dX7_byteAt_22
  · have hf := (f_ite hf).2 q1
    refine r_iloadn hx 1 rfl rfl dX7_byteAt_4 ?_
    refine r_aloadn hx 0 rfl rfl dX7_byteAt_5 ?_
    refine r_getI hx FK7_0 e_this wf_X7_27 dX7_byteAt_6 ?_
    refine r_icge (tgt := 21) hx rfl dX7_byteAt_9 (fun q2 => ?_) (fun q2 => ?_)
    · have hf := (f_ite hf).1 q2
      refine r_iconst hx ci_0 dX7_byteAt_21 ?_
      exact r_iret hx hf dX7_byteAt_22
    · have hf := (f_ite hf).2 q2
      refine r_aloadn hx 0 rfl rfl dX7_byteAt_12 ?_
      refine r_getR hx (c' := 29) (i' := 0) FK7_6 e_this rfl wf_X7_9 dX7_byteAt_13 (fun e3 => ?_)
      refine r_iloadn hx 1 rfl rfl dX7_byteAt_16 ?_
      obtain ⟨b4, hf⟩ := f_chk hf
      refine r_bald hx (by decide) rfl e3 b4 rfl dX7_byteAt_17 ?_
      refine r_goto (tgt := 22) hx rfl dX7_byteAt_18 ?_
      exact r_iret hx hf dX7_byteAt_22
theorem dX7_isBlank_0 : decode bX7_isBlank 0 = .ok (.iload_n 0, 1) := by decide +kernel
theorem dX7_isBlank_1 : decode bX7_isBlank 1 = .ok (.bipush 9, 2) := by decide +kernel
theorem dX7_isBlank_3 : decode bX7_isBlank 3 = .ok (.if_icmp .eq 21, 3) := by decide +kernel
theorem dX7_isBlank_6 : decode bX7_isBlank 6 = .ok (.iload_n 0, 1) := by decide +kernel
theorem dX7_isBlank_7 : decode bX7_isBlank 7 = .ok (.bipush 10, 2) := by decide +kernel
theorem dX7_isBlank_9 : decode bX7_isBlank 9 = .ok (.if_icmp .eq 15, 3) := by decide +kernel
theorem dX7_isBlank_12 : decode bX7_isBlank 12 = .ok (.iload_n 0, 1) := by decide +kernel
theorem dX7_isBlank_13 : decode bX7_isBlank 13 = .ok (.bipush 13, 2) := by decide +kernel
theorem dX7_isBlank_15 : decode bX7_isBlank 15 = .ok (.if_icmp .eq 9, 3) := by decide +kernel
theorem dX7_isBlank_18 : decode bX7_isBlank 18 = .ok (.iload_n 0, 1) := by decide +kernel
theorem dX7_isBlank_19 : decode bX7_isBlank 19 = .ok (.bipush 32, 2) := by decide +kernel
theorem dX7_isBlank_21 : decode bX7_isBlank 21 = .ok (.if_icmp .ne 7, 3) := by decide +kernel
theorem dX7_isBlank_24 : decode bX7_isBlank 24 = .ok (.iconst 1, 1) := by decide +kernel
theorem dX7_isBlank_25 : decode bX7_isBlank 25 = .ok (.goto 4, 3) := by decide +kernel
theorem dX7_isBlank_28 : decode bX7_isBlank 28 = .ok (.iconst 0, 1) := by decide +kernel
theorem dX7_isBlank_29 : decode bX7_isBlank 29 = .ok (.ireturn, 1) := by decide +kernel
set_option maxRecDepth 20000 in
set_option maxHeartbeats 4000000 in
theorem cX7_isBlank {l : Launch} {k : Kx} {F : Nat} {a0 : Int32} {μ μ' : Mm} {r : Int32} (hk : kok k) (hf : fX7_isBlank F a0 μ = some (r, μ')) : MM l k 0 yX7_isBlank bX7_isBlank 1 (some .boolean) [.int a0] μ (some (.int r)) μ' := by
  refine MM.of (lv := [(0, .int a0)]) (plainFor_of_name (by decide)) hk (Nat.le_of_ble_eq_true rfl) rfl (fun z hl hx => ?_)
  subst hl
  have hx : Ok z k bX7_isBlank 1 "RopeDance$Tape" (some .boolean) 0 (0, 0) := hx
  have L24 : ∀ (μ : Mm), fX7_isBlank_L24 F  μ = some (r, μ') → Gw z k 1 (k, (0, 0), (some .boolean), (some (.int r)), μ') (0, 0) 24 μ [] [] := by
    intro  μ hf
    unfold fX7_isBlank_L24 at hf
    refine r_iconst hx ci_1 dX7_isBlank_24 ?_
    refine r_goto (tgt := 29) hx rfl dX7_isBlank_25 ?_
    exact r_zret hx hf rfl dX7_isBlank_29
  unfold fX7_isBlank at hf
  refine r_iloadn hx 0 rfl rfl dX7_isBlank_0 ?_
  refine r_bipush hx cb_9 dX7_isBlank_1 ?_
  refine r_iceq (tgt := 24) hx rfl dX7_isBlank_3 (fun q1 => ?_) (fun q1 => ?_)
  · have hf := (f_ite hf).1 q1
    refine r_sub [] rfl ?_
    exact L24   μ hf
  · have hf := (f_ite hf).2 q1
    refine r_iloadn hx 0 rfl rfl dX7_isBlank_6 ?_
    refine r_bipush hx cb_10 dX7_isBlank_7 ?_
    refine r_iceq (tgt := 24) hx rfl dX7_isBlank_9 (fun q2 => ?_) (fun q2 => ?_)
    · have hf := (f_ite hf).1 q2
      refine r_sub [] rfl ?_
      exact L24   μ hf
    · have hf := (f_ite hf).2 q2
      refine r_iloadn hx 0 rfl rfl dX7_isBlank_12 ?_
      refine r_bipush hx cb_13 dX7_isBlank_13 ?_
      refine r_iceq (tgt := 24) hx rfl dX7_isBlank_15 (fun q3 => ?_) (fun q3 => ?_)
      · have hf := (f_ite hf).1 q3
        refine r_sub [] rfl ?_
        exact L24   μ hf
      · have hf := (f_ite hf).2 q3
        refine r_iloadn hx 0 rfl rfl dX7_isBlank_18 ?_
        refine r_bipush hx cb_32 dX7_isBlank_19 ?_
        refine r_icne (tgt := 28) hx rfl dX7_isBlank_21 (fun q4 => ?_) (fun q4 => ?_)
        · have hf := (f_ite hf).2 q4
          refine r_iconst hx ci_0 dX7_isBlank_28 ?_
          exact r_zret hx hf rfl dX7_isBlank_29
        · have hf := (f_ite hf).1 q4
          refine r_sub [] rfl ?_
          exact L24   μ hf
theorem dX7_behindBlanks_0 : decode bX7_behindBlanks 0 = .ok (.iload_n 1, 1) := by decide +kernel
theorem dX7_behindBlanks_1 : decode bX7_behindBlanks 1 = .ok (.istore_n 2, 1) := by decide +kernel
theorem dX7_behindBlanks_2 : decode bX7_behindBlanks 2 = .ok (.iload_n 2, 1) := by decide +kernel
theorem dX7_behindBlanks_3 : decode bX7_behindBlanks 3 = .ok (.aload_n 0, 1) := by decide +kernel
theorem dX7_behindBlanks_4 : decode bX7_behindBlanks 4 = .ok (.getfield 27, 3) := by decide +kernel
theorem dX7_behindBlanks_7 : decode bX7_behindBlanks 7 = .ok (.if_icmp .ge 20, 3) := by decide +kernel
theorem dX7_behindBlanks_10 : decode bX7_behindBlanks 10 = .ok (.aload_n 0, 1) := by decide +kernel
theorem dX7_behindBlanks_11 : decode bX7_behindBlanks 11 = .ok (.iload_n 2, 1) := by decide +kernel
theorem dX7_behindBlanks_12 : decode bX7_behindBlanks 12 = .ok (.invokevirtual 63, 3) := by decide +kernel
theorem dX7_behindBlanks_15 : decode bX7_behindBlanks 15 = .ok (.invokestatic 66, 3) := by decide +kernel
theorem dX7_behindBlanks_18 : decode bX7_behindBlanks 18 = .ok (.ifCond .eq 9, 3) := by decide +kernel
theorem dX7_behindBlanks_21 : decode bX7_behindBlanks 21 = .ok (.iinc 2 1, 3) := by decide +kernel
theorem dX7_behindBlanks_24 : decode bX7_behindBlanks 24 = .ok (.goto (-22), 3) := by decide +kernel
theorem dX7_behindBlanks_27 : decode bX7_behindBlanks 27 = .ok (.iload_n 2, 1) := by decide +kernel
theorem dX7_behindBlanks_28 : decode bX7_behindBlanks 28 = .ok (.ireturn, 1) := by decide +kernel
set_option maxRecDepth 20000 in
set_option maxHeartbeats 4000000 in
theorem cX7_behindBlanks {l : Launch} {k : Kx} {F : Nat} {a1 : Int32} {μ μ' : Mm} {r : Int32} (hk : kok k) (e_this : kex k 7 0) (hf : fX7_behindBlanks F a1 μ = some (r, μ')) : MM l k 1 yX7_behindBlanks bX7_behindBlanks 3 (some .int) [.ref (kad k 7 0), .int a1] μ (some (.int r)) μ' := by
  refine MM.of (lv := [(0, .ref (kad k 7 0)), (1, .int a1)]) (plainFor_of_name (by decide)) hk (Nat.le_of_ble_eq_true rfl) rfl (fun z hl hx => ?_)
  subst hl
  have hx : Ok z k bX7_behindBlanks 3 "RopeDance$Tape" (some .int) 1 (0, 0) := hx
  have L2 : ∀ (n : Nat) (v2 : Int32) (μ : Mm) (e_v0 : kex k 7 0), fX7_behindBlanks_L2 F n v2 μ = some (r, μ') → Gw z k 3 (k, (0, 0), (some .int), (some (.int r)), μ') (0, 0) 2 μ [(0, .ref (kad k 7 0)), (2, .int v2)] [] := by
    intro  n
    induction n with
    | zero =>
      intro v2 μ e_v0 hf
      exact f_no (show (none : Option (Int32 × Mm)) = _ from hf)
    | succ n ih =>
      intro v2 μ e_v0 hf
      rw [fX7_behindBlanks_L2] at hf
      refine r_iloadn hx 1 rfl rfl dX7_behindBlanks_2 ?_
      refine r_aloadn hx 0 rfl rfl dX7_behindBlanks_3 ?_
      refine r_getI hx FK7_0 e_v0 wf_X7_27 dX7_behindBlanks_4 ?_
      refine r_icge (tgt := 27) hx rfl dX7_behindBlanks_7 (fun q1 => ?_) (fun q1 => ?_)
      · have hf := (f_ite hf).1 q1
        refine r_iloadn hx 1 rfl rfl dX7_behindBlanks_27 ?_
        exact r_iret hx hf dX7_behindBlanks_28
      · have hf := (f_ite hf).2 q1
        refine r_aloadn hx 0 rfl rfl dX7_behindBlanks_10 ?_
        refine r_iloadn hx 1 rfl rfl dX7_behindBlanks_11 ?_
        obtain ⟨r4, μ3, c2, hf⟩ := f_bd2 hf
        refine r_callV hx (As := [.int v2]) (rest := []) (st1 := [.int r4]) (c := 7) (i := 0) (TT := T7) (N := 11) MK_X7_byteAt rfl wi_X7_byteAt we_X7_byteAt wm_X7_63 ⟨Nat.le_refl _, Nat.le_refl _⟩ (cX7_byteAt hk e_v0 c2) e_v0 (Nat.le_of_ble_eq_true rfl) rfl rfl (Nat.le_of_ble_eq_true rfl) rfl dX7_behindBlanks_12 (fun hb5 => ?_)
        obtain ⟨r8, μ7, c6, hf⟩ := f_bd2 hf
        refine r_callS hx (As := [.int r4]) (rest := []) (st1 := [.int r8]) MK_X7_isBlank ws_X7_isBlank wm_X7_66 ⟨Nat.le_refl _, Nat.le_refl _⟩ (cX7_isBlank hk c6) (Nat.le_of_ble_eq_true rfl) rfl rfl (Nat.le_of_ble_eq_true rfl) rfl dX7_behindBlanks_15 (fun hb9 => ?_)
        refine r_ifeq (tgt := 27) hx rfl dX7_behindBlanks_18 (fun q10 => ?_) (fun q10 => ?_)
        · have hf := (f_ite hf).1 q10
          refine r_iloadn hx 1 rfl rfl dX7_behindBlanks_27 ?_
          exact r_iret hx hf dX7_behindBlanks_28
        · have hf := (f_ite hf).2 q10
          refine r_iinc (lv' := [(2, .int (v2 + 1)), (0, .ref (kad k 7 0))]) hx 1 rfl (congrArg (fun y => v2 + y) ci_1) (Nat.le_of_ble_eq_true rfl) rfl dX7_behindBlanks_21 ?_
          refine r_goto (tgt := 2) hx rfl dX7_behindBlanks_24 ?_
          refine r_sub [1, 0] rfl ?_
          exact ih (v2 + 1) μ7 e_v0 hf
  unfold fX7_behindBlanks at hf
  refine r_iloadn hx 1 rfl rfl dX7_behindBlanks_0 ?_
  refine r_istoren (lv' := [(2, .int a1), (0, .ref (kad k 7 0)), (1, .int a1)]) hx rfl (Nat.le_of_ble_eq_true rfl) rfl dX7_behindBlanks_1 ?_
  refine r_sub [1, 0] rfl ?_
  exact L2 F a1 μ e_this hf
theorem dX7_isLetter_0 : decode bX7_isLetter 0 = .ok (.iload_n 0, 1) := by decide +kernel
theorem dX7_isLetter_1 : decode bX7_isLetter 1 = .ok (.bipush 97, 2) := by decide +kernel
theorem dX7_isLetter_3 : decode bX7_isLetter 3 = .ok (.if_icmp .lt 13, 3) := by decide +kernel
theorem dX7_isLetter_6 : decode bX7_isLetter 6 = .ok (.iload_n 0, 1) := by decide +kernel
theorem dX7_isLetter_7 : decode bX7_isLetter 7 = .ok (.bipush 122, 2) := by decide +kernel
theorem dX7_isLetter_9 : decode bX7_isLetter 9 = .ok (.if_icmp .gt 7, 3) := by decide +kernel
theorem dX7_isLetter_12 : decode bX7_isLetter 12 = .ok (.iconst 1, 1) := by decide +kernel
theorem dX7_isLetter_13 : decode bX7_isLetter 13 = .ok (.goto 4, 3) := by decide +kernel
theorem dX7_isLetter_16 : decode bX7_isLetter 16 = .ok (.iconst 0, 1) := by decide +kernel
theorem dX7_isLetter_17 : decode bX7_isLetter 17 = .ok (.ireturn, 1) := by decide +kernel
set_option maxRecDepth 20000 in
set_option maxHeartbeats 4000000 in
theorem cX7_isLetter {l : Launch} {k : Kx} {F : Nat} {a0 : Int32} {μ μ' : Mm} {r : Int32} (hk : kok k) (hf : fX7_isLetter F a0 μ = some (r, μ')) : MM l k 0 yX7_isLetter bX7_isLetter 1 (some .boolean) [.int a0] μ (some (.int r)) μ' := by
  refine MM.of (lv := [(0, .int a0)]) (plainFor_of_name (by decide)) hk (Nat.le_of_ble_eq_true rfl) rfl (fun z hl hx => ?_)
  subst hl
  have hx : Ok z k bX7_isLetter 1 "RopeDance$Tape" (some .boolean) 0 (0, 0) := hx
  unfold fX7_isLetter at hf
  refine r_iloadn hx 0 rfl rfl dX7_isLetter_0 ?_
  refine r_bipush hx cb_97 dX7_isLetter_1 ?_
  refine r_iclt (tgt := 16) hx rfl dX7_isLetter_3 (fun q1 => ?_) (fun q1 => ?_)
  · have hf := (f_ite hf).1 q1
    refine r_iconst hx ci_0 dX7_isLetter_16 ?_
    exact r_zret hx hf rfl dX7_isLetter_17
  · have hf := (f_ite hf).2 q1
    refine r_iloadn hx 0 rfl rfl dX7_isLetter_6 ?_
    refine r_bipush hx cb_122 dX7_isLetter_7 ?_
    refine r_icgt (tgt := 16) hx rfl dX7_isLetter_9 (fun q2 => ?_) (fun q2 => ?_)
    · have hf := (f_ite hf).1 q2
      refine r_iconst hx ci_0 dX7_isLetter_16 ?_
      exact r_zret hx hf rfl dX7_isLetter_17
    · have hf := (f_ite hf).2 q2
      refine r_iconst hx ci_1 dX7_isLetter_12 ?_
      refine r_goto (tgt := 17) hx rfl dX7_isLetter_13 ?_
      exact r_zret hx hf rfl dX7_isLetter_17
theorem dX7_withLetter_0 : decode bX7_withLetter 0 = .ok (.lload_n 0, 1) := by decide +kernel
theorem dX7_withLetter_1 : decode bX7_withLetter 1 = .ok (.ldc2_w 105, 3) := by decide +kernel
theorem dX7_withLetter_4 : decode bX7_withLetter 4 = .ok (.lmul, 1) := by decide +kernel
theorem dX7_withLetter_5 : decode bX7_withLetter 5 = .ok (.iload_n 2, 1) := by decide +kernel
theorem dX7_withLetter_6 : decode bX7_withLetter 6 = .ok (.bipush 97, 2) := by decide +kernel
theorem dX7_withLetter_8 : decode bX7_withLetter 8 = .ok (.isub, 1) := by decide +kernel
theorem dX7_withLetter_9 : decode bX7_withLetter 9 = .ok (.iconst 1, 1) := by decide +kernel
theorem dX7_withLetter_10 : decode bX7_withLetter 10 = .ok (.iadd, 1) := by decide +kernel
theorem dX7_withLetter_11 : decode bX7_withLetter 11 = .ok (.i2l, 1) := by decide +kernel
theorem dX7_withLetter_12 : decode bX7_withLetter 12 = .ok (.ladd, 1) := by decide +kernel
theorem dX7_withLetter_13 : decode bX7_withLetter 13 = .ok (.lreturn, 1) := by decide +kernel
set_option maxRecDepth 20000 in
set_option maxHeartbeats 4000000 in
theorem cX7_withLetter {l : Launch} {k : Kx} {F : Nat} {a0 : Int64} {a2 : Int32} {μ μ' : Mm} {r : Int64} (hk : kok k) (hf : fX7_withLetter F a0 a2 μ = some (r, μ')) : MM l k 0 yX7_withLetter bX7_withLetter 3 (some .long) [.long a0, .int a2] μ (some (.long r)) μ' := by
  refine MM.of (lv := [(0, .long a0), (2, .int a2)]) (plainFor_of_name (by decide)) hk (Nat.le_of_ble_eq_true rfl) rfl (fun z hl hx => ?_)
  subst hl
  have hx : Ok z k bX7_withLetter 3 "RopeDance$Tape" (some .long) 0 (0, 0) := hx
  unfold fX7_withLetter at hf
  refine r_lloadn hx 0 rfl rfl dX7_withLetter_0 ?_
  refine r_ldc2 hx wc_X7_105 dX7_withLetter_1 ?_
  refine r_lmul hx dX7_withLetter_4 ?_
  refine r_iloadn hx 1 rfl rfl dX7_withLetter_5 ?_
  refine r_bipush hx cb_97 dX7_withLetter_6 ?_
  refine r_isub hx dX7_withLetter_8 ?_
  refine r_iconst hx ci_1 dX7_withLetter_9 ?_
  refine r_iadd hx dX7_withLetter_10 ?_
  refine r_i2l hx dX7_withLetter_11 ?_
  refine r_ladd hx dX7_withLetter_12 ?_
  exact r_lret hx hf dX7_withLetter_13
theorem dJ0_coder_7d493_0 : decode bJ0_coder_7d493 0 = .ok (.getstatic 38, 3) := by decide +kernel
theorem dJ0_coder_7d493_3 : decode bJ0_coder_7d493 3 = .ok (.ifCond .eq 10, 3) := by decide +kernel
theorem dJ0_coder_7d493_6 : decode bJ0_coder_7d493 6 = .ok (.aload_n 0, 1) := by decide +kernel
theorem dJ0_coder_7d493_7 : decode bJ0_coder_7d493 7 = .ok (.getfield 15, 3) := by decide +kernel
theorem dJ0_coder_7d493_10 : decode bJ0_coder_7d493 10 = .ok (.goto 4, 3) := by decide +kernel
theorem dJ0_coder_7d493_14 : decode bJ0_coder_7d493 14 = .ok (.ireturn, 1) := by decide +kernel
set_option maxRecDepth 20000 in
set_option maxHeartbeats 4000000 in
theorem cJ0_coder_7d493_w0 {l : Launch} {k : Kx} {F : Nat} {μ μ' : Mm} {r : Int32} (hk : kok k) (hf : fJ0_coder_7d493_w0 F μ = some (r, μ')) : MM l k 0 yJ0_coder_7d493 bJ0_coder_7d493 1 (some .byte) [.ref (kSa k 0)] μ (some (.int r)) μ' := by
  refine MM.of (lv := [(0, .ref (kSa k 0))]) (by decide +kernel) hk (Nat.le_of_ble_eq_true rfl) rfl (fun z hl hx => ?_)
  subst hl
  have hx : Ok z k bJ0_coder_7d493 1 "java/lang/String" (some .byte) 0 (0, 0) := hx
  unfold fJ0_coder_7d493_w0 at hf
  refine r_gcs hx wf_J0_38 dJ0_coder_7d493_0 ?_
  refine r_ifeq (tgt := 13) hx rfl dJ0_coder_7d493_3 (fun q => absurd q (by decide)) (fun _ => ?_)
  refine r_aloadn hx 0 rfl rfl dJ0_coder_7d493_6 ?_
  refine r_scod (w := 0) hx (by decide) wf_J0_15 dJ0_coder_7d493_7 ?_
  refine r_goto (tgt := 14) hx rfl dJ0_coder_7d493_10 ?_
  exact r_bret hx hf rfl dJ0_coder_7d493_14
set_option maxRecDepth 20000 in
set_option maxHeartbeats 4000000 in
theorem cJ0_coder_7d493_w1 {l : Launch} {k : Kx} {F : Nat} {μ μ' : Mm} {r : Int32} (hk : kok k) (hf : fJ0_coder_7d493_w1 F μ = some (r, μ')) : MM l k 0 yJ0_coder_7d493 bJ0_coder_7d493 1 (some .byte) [.ref (kSa k 1)] μ (some (.int r)) μ' := by
  refine MM.of (lv := [(0, .ref (kSa k 1))]) (by decide +kernel) hk (Nat.le_of_ble_eq_true rfl) rfl (fun z hl hx => ?_)
  subst hl
  have hx : Ok z k bJ0_coder_7d493 1 "java/lang/String" (some .byte) 0 (0, 0) := hx
  unfold fJ0_coder_7d493_w1 at hf
  refine r_gcs hx wf_J0_38 dJ0_coder_7d493_0 ?_
  refine r_ifeq (tgt := 13) hx rfl dJ0_coder_7d493_3 (fun q => absurd q (by decide)) (fun _ => ?_)
  refine r_aloadn hx 0 rfl rfl dJ0_coder_7d493_6 ?_
  refine r_scod (w := 1) hx (by decide) wf_J0_15 dJ0_coder_7d493_7 ?_
  refine r_goto (tgt := 14) hx rfl dJ0_coder_7d493_10 ?_
  exact r_bret hx hf rfl dJ0_coder_7d493_14
theorem dJ0_length_8abf5_0 : decode bJ0_length_8abf5 0 = .ok (.aload_n 0, 1) := by decide +kernel
theorem dJ0_length_8abf5_1 : decode bJ0_length_8abf5 1 = .ok (.getfield 9, 3) := by decide +kernel
theorem dJ0_length_8abf5_4 : decode bJ0_length_8abf5 4 = .ok (.arraylength, 1) := by decide +kernel
theorem dJ0_length_8abf5_5 : decode bJ0_length_8abf5 5 = .ok (.aload_n 0, 1) := by decide +kernel
theorem dJ0_length_8abf5_6 : decode bJ0_length_8abf5 6 = .ok (.invokevirtual 335, 3) := by decide +kernel
theorem dJ0_length_8abf5_9 : decode bJ0_length_8abf5 9 = .ok (.ishr, 1) := by decide +kernel
theorem dJ0_length_8abf5_10 : decode bJ0_length_8abf5 10 = .ok (.ireturn, 1) := by decide +kernel
set_option maxRecDepth 20000 in
set_option maxHeartbeats 4000000 in
theorem cJ0_length_8abf5_w0 {l : Launch} {k : Kx} {F : Nat} {μ μ' : Mm} {r : Int32} (hk : kok k) (hf : fJ0_length_8abf5_w0 F μ = some (r, μ')) : MM l k 1 yJ0_length_8abf5 bJ0_length_8abf5 1 (some .int) [.ref (kSa k 0)] μ (some (.int r)) μ' := by
  refine MM.of (lv := [(0, .ref (kSa k 0))]) (by decide +kernel) hk (Nat.le_of_ble_eq_true rfl) rfl (fun z hl hx => ?_)
  subst hl
  have hx : Ok z k bJ0_length_8abf5 1 "java/lang/String" (some .int) 1 (0, 0) := hx
  unfold fJ0_length_8abf5_w0 at hf
  refine r_aloadn hx 0 rfl rfl dJ0_length_8abf5_0 ?_
  refine r_sval (w := 0) hx (by decide) wf_J0_9 dJ0_length_8abf5_1 ?_
  refine r_svlen (v := 125) (w := 0) hx (by decide) (by decide) dJ0_length_8abf5_4 ?_
  refine r_aloadn hx 0 rfl rfl dJ0_length_8abf5_5 ?_
  obtain ⟨r3, μ2, c1, hf⟩ := f_bd2 hf
  refine r_callVS hx (As := []) (rest := [.int 125]) (st1 := [.int r3, .int 125]) (w := 0) MK_J0_coder_7d493 rfl wi_J0_coder_7d493 we_J0_coder_7d493 wm_J0_335 ⟨Nat.le_refl _, Nat.le_refl _⟩ (cJ0_coder_7d493_w0 hk c1) (by decide) (Nat.le_of_ble_eq_true rfl) rfl rfl (Nat.le_of_ble_eq_true rfl) rfl dJ0_length_8abf5_6 (fun hb4 => ?_)
  refine r_ishr hx dJ0_length_8abf5_9 ?_
  exact r_iret hx hf dJ0_length_8abf5_10
set_option maxRecDepth 20000 in
set_option maxHeartbeats 4000000 in
theorem cJ0_length_8abf5_w1 {l : Launch} {k : Kx} {F : Nat} {μ μ' : Mm} {r : Int32} (hk : kok k) (hf : fJ0_length_8abf5_w1 F μ = some (r, μ')) : MM l k 1 yJ0_length_8abf5 bJ0_length_8abf5 1 (some .int) [.ref (kSa k 1)] μ (some (.int r)) μ' := by
  refine MM.of (lv := [(0, .ref (kSa k 1))]) (by decide +kernel) hk (Nat.le_of_ble_eq_true rfl) rfl (fun z hl hx => ?_)
  subst hl
  have hx : Ok z k bJ0_length_8abf5 1 "java/lang/String" (some .int) 1 (0, 0) := hx
  unfold fJ0_length_8abf5_w1 at hf
  refine r_aloadn hx 0 rfl rfl dJ0_length_8abf5_0 ?_
  refine r_sval (w := 1) hx (by decide) wf_J0_9 dJ0_length_8abf5_1 ?_
  refine r_svlen (v := 9) (w := 1) hx (by decide) (by decide) dJ0_length_8abf5_4 ?_
  refine r_aloadn hx 0 rfl rfl dJ0_length_8abf5_5 ?_
  obtain ⟨r3, μ2, c1, hf⟩ := f_bd2 hf
  refine r_callVS hx (As := []) (rest := [.int 9]) (st1 := [.int r3, .int 9]) (w := 1) MK_J0_coder_7d493 rfl wi_J0_coder_7d493 we_J0_coder_7d493 wm_J0_335 ⟨Nat.le_refl _, Nat.le_refl _⟩ (cJ0_coder_7d493_w1 hk c1) (by decide) (Nat.le_of_ble_eq_true rfl) rfl rfl (Nat.le_of_ble_eq_true rfl) rfl dJ0_length_8abf5_6 (fun hb4 => ?_)
  refine r_ishr hx dJ0_length_8abf5_9 ?_
  exact r_iret hx hf dJ0_length_8abf5_10
theorem dJ0_isLatin1_aae02_0 : decode bJ0_isLatin1_aae02 0 = .ok (.getstatic 38, 3) := by decide +kernel
theorem dJ0_isLatin1_aae02_3 : decode bJ0_isLatin1_aae02 3 = .ok (.ifCond .eq 14, 3) := by decide +kernel
theorem dJ0_isLatin1_aae02_6 : decode bJ0_isLatin1_aae02 6 = .ok (.aload_n 0, 1) := by decide +kernel
theorem dJ0_isLatin1_aae02_7 : decode bJ0_isLatin1_aae02 7 = .ok (.getfield 15, 3) := by decide +kernel
theorem dJ0_isLatin1_aae02_10 : decode bJ0_isLatin1_aae02 10 = .ok (.ifCond .ne 7, 3) := by decide +kernel
theorem dJ0_isLatin1_aae02_13 : decode bJ0_isLatin1_aae02 13 = .ok (.iconst 1, 1) := by decide +kernel
theorem dJ0_isLatin1_aae02_14 : decode bJ0_isLatin1_aae02 14 = .ok (.goto 4, 3) := by decide +kernel
theorem dJ0_isLatin1_aae02_18 : decode bJ0_isLatin1_aae02 18 = .ok (.ireturn, 1) := by decide +kernel
set_option maxRecDepth 20000 in
set_option maxHeartbeats 4000000 in
theorem cJ0_isLatin1_aae02_w0 {l : Launch} {k : Kx} {F : Nat} {μ μ' : Mm} {r : Int32} (hk : kok k) (hf : fJ0_isLatin1_aae02_w0 F μ = some (r, μ')) : MM l k 0 yJ0_isLatin1_aae02 bJ0_isLatin1_aae02 1 (some .boolean) [.ref (kSa k 0)] μ (some (.int r)) μ' := by
  refine MM.of (lv := [(0, .ref (kSa k 0))]) (by decide +kernel) hk (Nat.le_of_ble_eq_true rfl) rfl (fun z hl hx => ?_)
  subst hl
  have hx : Ok z k bJ0_isLatin1_aae02 1 "java/lang/String" (some .boolean) 0 (0, 0) := hx
  unfold fJ0_isLatin1_aae02_w0 at hf
  refine r_gcs hx wf_J0_38 dJ0_isLatin1_aae02_0 ?_
  refine r_ifeq (tgt := 17) hx rfl dJ0_isLatin1_aae02_3 (fun q => absurd q (by decide)) (fun _ => ?_)
  refine r_aloadn hx 0 rfl rfl dJ0_isLatin1_aae02_6 ?_
  refine r_scod (w := 0) hx (by decide) wf_J0_15 dJ0_isLatin1_aae02_7 ?_
  refine r_ifne (tgt := 17) hx rfl dJ0_isLatin1_aae02_10 (fun q => absurd q (by decide)) (fun _ => ?_)
  refine r_iconst hx ci_1 dJ0_isLatin1_aae02_13 ?_
  refine r_goto (tgt := 18) hx rfl dJ0_isLatin1_aae02_14 ?_
  exact r_zret hx hf rfl dJ0_isLatin1_aae02_18
set_option maxRecDepth 20000 in
set_option maxHeartbeats 4000000 in
theorem cJ0_isLatin1_aae02_w1 {l : Launch} {k : Kx} {F : Nat} {μ μ' : Mm} {r : Int32} (hk : kok k) (hf : fJ0_isLatin1_aae02_w1 F μ = some (r, μ')) : MM l k 0 yJ0_isLatin1_aae02 bJ0_isLatin1_aae02 1 (some .boolean) [.ref (kSa k 1)] μ (some (.int r)) μ' := by
  refine MM.of (lv := [(0, .ref (kSa k 1))]) (by decide +kernel) hk (Nat.le_of_ble_eq_true rfl) rfl (fun z hl hx => ?_)
  subst hl
  have hx : Ok z k bJ0_isLatin1_aae02 1 "java/lang/String" (some .boolean) 0 (0, 0) := hx
  unfold fJ0_isLatin1_aae02_w1 at hf
  refine r_gcs hx wf_J0_38 dJ0_isLatin1_aae02_0 ?_
  refine r_ifeq (tgt := 17) hx rfl dJ0_isLatin1_aae02_3 (fun q => absurd q (by decide)) (fun _ => ?_)
  refine r_aloadn hx 0 rfl rfl dJ0_isLatin1_aae02_6 ?_
  refine r_scod (w := 1) hx (by decide) wf_J0_15 dJ0_isLatin1_aae02_7 ?_
  refine r_ifne (tgt := 17) hx rfl dJ0_isLatin1_aae02_10 (fun q => absurd q (by decide)) (fun _ => ?_)
  refine r_iconst hx ci_1 dJ0_isLatin1_aae02_13 ?_
  refine r_goto (tgt := 18) hx rfl dJ0_isLatin1_aae02_14 ?_
  exact r_zret hx hf rfl dJ0_isLatin1_aae02_18
theorem dJ3_checkIndex_8e157_0 : decode bJ3_checkIndex_8e157 0 = .ok (.iload_n 0, 1) := by decide +kernel
theorem dJ3_checkIndex_8e157_1 : decode bJ3_checkIndex_8e157 1 = .ok (.ifCond .lt 8, 3) := by decide +kernel
theorem dJ3_checkIndex_8e157_4 : decode bJ3_checkIndex_8e157 4 = .ok (.iload_n 0, 1) := by decide +kernel
theorem dJ3_checkIndex_8e157_5 : decode bJ3_checkIndex_8e157 5 = .ok (.iload_n 1, 1) := by decide +kernel
theorem dJ3_checkIndex_8e157_6 : decode bJ3_checkIndex_8e157 6 = .ok (.if_icmp .lt 10, 3) := by decide +kernel
theorem dJ3_checkIndex_8e157_16 : decode bJ3_checkIndex_8e157 16 = .ok (.iload_n 0, 1) := by decide +kernel
theorem dJ3_checkIndex_8e157_17 : decode bJ3_checkIndex_8e157 17 = .ok (.ireturn, 1) := by decide +kernel
set_option maxRecDepth 20000 in
set_option maxHeartbeats 4000000 in
theorem cJ3_checkIndex_8e157 {l : Launch} {k : Kx} {F : Nat} {a0 : Int32} {a1 : Int32} {μ μ' : Mm} {r : Int32} (hk : kok k) (hf : fJ3_checkIndex_8e157 F a0 a1 μ = some (r, μ')) : MM l k 0 yJ3_checkIndex_8e157 bJ3_checkIndex_8e157 3 (some .int) [.int a0, .int a1, va_rf (kQ k)] μ (some (.int r)) μ' := by
  refine MM.of (lv := [(0, .int a0), (1, .int a1), (2, va_rf (kQ k))]) (by decide +kernel) hk (by rcases va_rf_or (kQ k) with e | ⟨a, e⟩ <;> rw [e] <;> exact Nat.le_of_ble_eq_true rfl) rfl (fun z hl hx => ?_)
  subst hl
  have hx : Ok z k bJ3_checkIndex_8e157 3 "jdk/internal/util/Preconditions" (some .int) 0 (0, 0) := hx
  have L9 : ∀ (v0 : Int32) (v1 : Int32) (μ : Mm), fJ3_checkIndex_8e157_L9 F v0 v1 μ = some (r, μ') → Gw z k 3 (k, (0, 0), (some .int), (some (.int r)), μ') (0, 0) 9 μ [(0, .int v0), (1, .int v1), (2, va_rf (kQ k))] [] := by
    intro  v0 v1 μ hf
    unfold fJ3_checkIndex_8e157_L9 at hf
    exact f_no hf
  unfold fJ3_checkIndex_8e157 at hf
  refine r_iloadn hx 0 rfl rfl dJ3_checkIndex_8e157_0 ?_
  refine r_iflt (tgt := 9) hx rfl dJ3_checkIndex_8e157_1 (fun q1 => ?_) (fun q1 => ?_)
  · have hf := (f_ite hf).1 q1
    refine r_sub [0, 1, 2] rfl ?_
    exact L9  a0 a1 μ hf
  · have hf := (f_ite hf).2 q1
    refine r_iloadn hx 0 rfl rfl dJ3_checkIndex_8e157_4 ?_
    refine r_iloadn hx 1 rfl rfl dJ3_checkIndex_8e157_5 ?_
    refine r_iclt (tgt := 16) hx rfl dJ3_checkIndex_8e157_6 (fun q2 => ?_) (fun q2 => ?_)
    · have hf := (f_ite hf).1 q2
      refine r_iloadn hx 0 rfl rfl dJ3_checkIndex_8e157_16 ?_
      exact r_iret hx hf dJ3_checkIndex_8e157_17
    · have hf := (f_ite hf).2 q2
      refine r_sub [0, 1, 2] rfl ?_
      exact L9  a0 a1 μ hf
theorem dJ0_checkIndex_df160_0 : decode bJ0_checkIndex_df160 0 = .ok (.iload_n 0, 1) := by decide +kernel
theorem dJ0_checkIndex_df160_1 : decode bJ0_checkIndex_df160 1 = .ok (.iload_n 1, 1) := by decide +kernel
theorem dJ0_checkIndex_df160_2 : decode bJ0_checkIndex_df160 2 = .ok (.getstatic 1053, 3) := by decide +kernel
theorem dJ0_checkIndex_df160_5 : decode bJ0_checkIndex_df160 5 = .ok (.invokestatic 1059, 3) := by decide +kernel
theorem dJ0_checkIndex_df160_8 : decode bJ0_checkIndex_df160 8 = .ok (.pop, 1) := by decide +kernel
theorem dJ0_checkIndex_df160_9 : decode bJ0_checkIndex_df160 9 = .ok (.return_, 1) := by decide +kernel
set_option maxRecDepth 20000 in
set_option maxHeartbeats 4000000 in
theorem cJ0_checkIndex_df160 {l : Launch} {k : Kx} {F : Nat} {a0 : Int32} {a1 : Int32} {μ μ' : Mm} (hk : kok k) (hf : fJ0_checkIndex_df160 F a0 a1 μ = some μ') : MM l k 1 yJ0_checkIndex_df160 bJ0_checkIndex_df160 2 none [.int a0, .int a1] μ none μ' := by
  refine MM.of (lv := [(0, .int a0), (1, .int a1)]) (by decide +kernel) hk (Nat.le_of_ble_eq_true rfl) rfl (fun z hl hx => ?_)
  subst hl
  have hx : Ok z k bJ0_checkIndex_df160 2 "java/lang/String" none 1 (0, 0) := hx
  unfold fJ0_checkIndex_df160 at hf
  refine r_iloadn hx 0 rfl rfl dJ0_checkIndex_df160_0 ?_
  refine r_iloadn hx 1 rfl rfl dJ0_checkIndex_df160_1 ?_
  refine r_gsq hx wf_J0_1053 dJ0_checkIndex_df160_2 ?_
  obtain ⟨r3, μ2, c1, hf⟩ := f_bd2 hf
  refine r_callS hx (As := [.int a0, .int a1, va_rf (kQ k)]) (rest := []) (st1 := [.int r3]) MK_J3_checkIndex_8e157 ws_J3_checkIndex_8e157 wm_J0_1059 ⟨Nat.le_refl _, Nat.le_refl _⟩ (cJ3_checkIndex_8e157 hk c1) (Nat.le_of_ble_eq_true rfl) rfl rfl (Nat.le_of_ble_eq_true rfl) rfl dJ0_checkIndex_df160_5 (fun hb4 => ?_)
  refine r_pop hx rfl dJ0_checkIndex_df160_8 ?_
  exact r_vret hx hf dJ0_checkIndex_df160_9
theorem dJ1_charAt_3b067_0 : decode bJ1_charAt_3b067 0 = .ok (.iload_n 1, 1) := by decide +kernel
theorem dJ1_charAt_3b067_1 : decode bJ1_charAt_3b067 1 = .ok (.aload_n 0, 1) := by decide +kernel
theorem dJ1_charAt_3b067_2 : decode bJ1_charAt_3b067 2 = .ok (.arraylength, 1) := by decide +kernel
theorem dJ1_charAt_3b067_3 : decode bJ1_charAt_3b067 3 = .ok (.invokestatic 9, 3) := by decide +kernel
theorem dJ1_charAt_3b067_6 : decode bJ1_charAt_3b067 6 = .ok (.aload_n 0, 1) := by decide +kernel
theorem dJ1_charAt_3b067_7 : decode bJ1_charAt_3b067 7 = .ok (.iload_n 1, 1) := by decide +kernel
theorem dJ1_charAt_3b067_8 : decode bJ1_charAt_3b067 8 = .ok (.baload, 1) := by decide +kernel
theorem dJ1_charAt_3b067_9 : decode bJ1_charAt_3b067 9 = .ok (.sipush 255, 3) := by decide +kernel
theorem dJ1_charAt_3b067_12 : decode bJ1_charAt_3b067 12 = .ok (.iand, 1) := by decide +kernel
theorem dJ1_charAt_3b067_13 : decode bJ1_charAt_3b067 13 = .ok (.i2c, 1) := by decide +kernel
theorem dJ1_charAt_3b067_14 : decode bJ1_charAt_3b067 14 = .ok (.ireturn, 1) := by decide +kernel
set_option maxRecDepth 20000 in
set_option maxHeartbeats 4000000 in
theorem cJ1_charAt_3b067_w0 {l : Launch} {k : Kx} {F : Nat} {a1 : Int32} {μ μ' : Mm} {r : Int32} (hk : kok k) (hf : fJ1_charAt_3b067_w0 F a1 μ = some (r, μ')) : MM l k 2 yJ1_charAt_3b067 bJ1_charAt_3b067 2 (some .char) [.ref (kSv k 0), .int a1] μ (some (.int r)) μ' := by
  refine MM.of (lv := [(0, .ref (kSv k 0)), (1, .int a1)]) (by decide +kernel) hk (Nat.le_of_ble_eq_true rfl) rfl (fun z hl hx => ?_)
  subst hl
  have hx : Ok z k bJ1_charAt_3b067 2 "java/lang/StringLatin1" (some .char) 2 (0, 0) := hx
  unfold fJ1_charAt_3b067_w0 at hf
  refine r_iloadn hx 1 rfl rfl dJ1_charAt_3b067_0 ?_
  refine r_aloadn hx 0 rfl rfl dJ1_charAt_3b067_1 ?_
  refine r_svlen (v := 125) (w := 0) hx (by decide) (by decide) dJ1_charAt_3b067_2 ?_
  obtain ⟨μ2, c1, hf⟩ := f_bd1 hf
  refine r_callS hx (As := [.int a1, .int 125]) (rest := []) (st1 := []) MK_J0_checkIndex_df160 ws_J0_checkIndex_df160 wm_J1_9 ⟨Nat.le_refl _, Nat.le_refl _⟩ (cJ0_checkIndex_df160 hk c1) (Nat.le_of_ble_eq_true rfl) rfl rfl (Nat.le_of_ble_eq_true rfl) rfl dJ1_charAt_3b067_3 (fun hb3 => ?_)
  refine r_aloadn hx 0 rfl rfl dJ1_charAt_3b067_6 ?_
  refine r_iloadn hx 1 rfl rfl dJ1_charAt_3b067_7 ?_
  obtain ⟨b4, hf⟩ := f_chk hf
  refine r_svald (w := 0) (n := 125) hx (by decide) rfl b4 rfl dJ1_charAt_3b067_8 ?_
  refine r_sipush hx cs_255 dJ1_charAt_3b067_9 ?_
  refine r_iand hx dJ1_charAt_3b067_12 ?_
  refine r_i2c hx dJ1_charAt_3b067_13 ?_
  exact r_cret hx hf (i2c_nar _) dJ1_charAt_3b067_14
theorem dJ0_charAt_5068e_0 : decode bJ0_charAt_5068e 0 = .ok (.aload_n 0, 1) := by decide +kernel
theorem dJ0_charAt_5068e_1 : decode bJ0_charAt_5068e 1 = .ok (.invokevirtual 492, 3) := by decide +kernel
theorem dJ0_charAt_5068e_4 : decode bJ0_charAt_5068e 4 = .ok (.ifCond .eq 12, 3) := by decide +kernel
theorem dJ0_charAt_5068e_7 : decode bJ0_charAt_5068e 7 = .ok (.aload_n 0, 1) := by decide +kernel
theorem dJ0_charAt_5068e_8 : decode bJ0_charAt_5068e 8 = .ok (.getfield 9, 3) := by decide +kernel
theorem dJ0_charAt_5068e_11 : decode bJ0_charAt_5068e 11 = .ok (.iload_n 1, 1) := by decide +kernel
theorem dJ0_charAt_5068e_12 : decode bJ0_charAt_5068e 12 = .ok (.invokestatic 495, 3) := by decide +kernel
theorem dJ0_charAt_5068e_15 : decode bJ0_charAt_5068e 15 = .ok (.ireturn, 1) := by decide +kernel
theorem dJ0_charAt_5068e_16 : decode bJ0_charAt_5068e 16 = .ok (.aload_n 0, 1) := by decide +kernel
theorem dJ0_charAt_5068e_17 : decode bJ0_charAt_5068e 17 = .ok (.getfield 9, 3) := by decide +kernel
theorem dJ0_charAt_5068e_20 : decode bJ0_charAt_5068e 20 = .ok (.iload_n 1, 1) := by decide +kernel
set_option maxRecDepth 20000 in
set_option maxHeartbeats 4000000 in
theorem cJ0_charAt_5068e_w0 {l : Launch} {k : Kx} {F : Nat} {a1 : Int32} {μ μ' : Mm} {r : Int32} (hk : kok k) (hf : fJ0_charAt_5068e_w0 F a1 μ = some (r, μ')) : MM l k 3 yJ0_charAt_5068e bJ0_charAt_5068e 2 (some .char) [.ref (kSa k 0), .int a1] μ (some (.int r)) μ' := by
  refine MM.of (lv := [(0, .ref (kSa k 0)), (1, .int a1)]) (by decide +kernel) hk (Nat.le_of_ble_eq_true rfl) rfl (fun z hl hx => ?_)
  subst hl
  have hx : Ok z k bJ0_charAt_5068e 2 "java/lang/String" (some .char) 3 (0, 0) := hx
  unfold fJ0_charAt_5068e_w0 at hf
  refine r_aloadn hx 0 rfl rfl dJ0_charAt_5068e_0 ?_
  obtain ⟨r3, μ2, c1, hf⟩ := f_bd2 hf
  refine r_callVS hx (As := []) (rest := []) (st1 := [.int r3]) (w := 0) MK_J0_isLatin1_aae02 rfl wi_J0_isLatin1_aae02 we_J0_isLatin1_aae02 wm_J0_492 ⟨Nat.le_refl _, Nat.le_refl _⟩ (cJ0_isLatin1_aae02_w0 hk c1) (by decide) (Nat.le_of_ble_eq_true rfl) rfl rfl (Nat.le_of_ble_eq_true rfl) rfl dJ0_charAt_5068e_1 (fun hb4 => ?_)
  refine r_ifeq (tgt := 16) hx rfl dJ0_charAt_5068e_4 (fun q5 => ?_) (fun q5 => ?_)
  · have hf := (f_ite hf).1 q5
    refine r_aloadn hx 0 rfl rfl dJ0_charAt_5068e_16 ?_
    refine r_sval (w := 0) hx (by decide) wf_J0_9 dJ0_charAt_5068e_17 ?_
    refine r_iloadn hx 1 rfl rfl dJ0_charAt_5068e_20 ?_
    exact f_no hf
  · have hf := (f_ite hf).2 q5
    refine r_aloadn hx 0 rfl rfl dJ0_charAt_5068e_7 ?_
    refine r_sval (w := 0) hx (by decide) wf_J0_9 dJ0_charAt_5068e_8 ?_
    refine r_iloadn hx 1 rfl rfl dJ0_charAt_5068e_11 ?_
    obtain ⟨r8, μ7, c6, hf⟩ := f_bd2 hf
    refine r_callS hx (As := [.ref (kSv k 0), .int a1]) (rest := []) (st1 := [.int r8]) MK_J1_charAt_3b067 ws_J1_charAt_3b067 wm_J0_495 ⟨Nat.le_refl _, Nat.le_refl _⟩ (cJ1_charAt_3b067_w0 hk c6) (Nat.le_of_ble_eq_true rfl) rfl rfl (Nat.le_of_ble_eq_true rfl) rfl dJ0_charAt_5068e_12 (fun hb9 => ?_)
    exact r_cret hx hf (hb9.2 rfl _ rfl) dJ0_charAt_5068e_15
theorem dX7_kindOfWord_0 : decode bX7_kindOfWord 0 = .ok (.iconst 0, 1) := by decide +kernel
theorem dX7_kindOfWord_1 : decode bX7_kindOfWord 1 = .ok (.istore_n 2, 1) := by decide +kernel
theorem dX7_kindOfWord_2 : decode bX7_kindOfWord 2 = .ok (.lconst 0, 1) := by decide +kernel
theorem dX7_kindOfWord_3 : decode bX7_kindOfWord 3 = .ok (.lstore_n 3, 1) := by decide +kernel
theorem dX7_kindOfWord_4 : decode bX7_kindOfWord 4 = .ok (.iconst 0, 1) := by decide +kernel
theorem dX7_kindOfWord_5 : decode bX7_kindOfWord 5 = .ok (.istore 5, 2) := by decide +kernel
theorem dX7_kindOfWord_7 : decode bX7_kindOfWord 7 = .ok (.iload 5, 2) := by decide +kernel
theorem dX7_kindOfWord_9 : decode bX7_kindOfWord 9 = .ok (.ldc 96, 2) := by decide +kernel
theorem dX7_kindOfWord_11 : decode bX7_kindOfWord 11 = .ok (.invokevirtual 98, 3) := by decide +kernel
theorem dX7_kindOfWord_14 : decode bX7_kindOfWord 14 = .ok (.if_icmp .ge 48, 3) := by decide +kernel
theorem dX7_kindOfWord_17 : decode bX7_kindOfWord 17 = .ok (.ldc 96, 2) := by decide +kernel
theorem dX7_kindOfWord_19 : decode bX7_kindOfWord 19 = .ok (.iload 5, 2) := by decide +kernel
theorem dX7_kindOfWord_21 : decode bX7_kindOfWord 21 = .ok (.invokevirtual 101, 3) := by decide +kernel
theorem dX7_kindOfWord_24 : decode bX7_kindOfWord 24 = .ok (.istore 6, 2) := by decide +kernel
theorem dX7_kindOfWord_26 : decode bX7_kindOfWord 26 = .ok (.iload 6, 2) := by decide +kernel
theorem dX7_kindOfWord_28 : decode bX7_kindOfWord 28 = .ok (.bipush 32, 2) := by decide +kernel
theorem dX7_kindOfWord_30 : decode bX7_kindOfWord 30 = .ok (.if_icmp .eq 13, 3) := by decide +kernel
theorem dX7_kindOfWord_33 : decode bX7_kindOfWord 33 = .ok (.lload_n 3, 1) := by decide +kernel
theorem dX7_kindOfWord_34 : decode bX7_kindOfWord 34 = .ok (.iload 6, 2) := by decide +kernel
theorem dX7_kindOfWord_36 : decode bX7_kindOfWord 36 = .ok (.invokestatic 88, 3) := by decide +kernel
theorem dX7_kindOfWord_39 : decode bX7_kindOfWord 39 = .ok (.lstore_n 3, 1) := by decide +kernel
theorem dX7_kindOfWord_40 : decode bX7_kindOfWord 40 = .ok (.goto 16, 3) := by decide +kernel
theorem dX7_kindOfWord_43 : decode bX7_kindOfWord 43 = .ok (.lload_n 3, 1) := by decide +kernel
theorem dX7_kindOfWord_44 : decode bX7_kindOfWord 44 = .ok (.lload_n 0, 1) := by decide +kernel
theorem dX7_kindOfWord_45 : decode bX7_kindOfWord 45 = .ok (.lcmp, 1) := by decide +kernel
theorem dX7_kindOfWord_46 : decode bX7_kindOfWord 46 = .ok (.ifCond .ne 5, 3) := by decide +kernel
theorem dX7_kindOfWord_49 : decode bX7_kindOfWord 49 = .ok (.iload_n 2, 1) := by decide +kernel
theorem dX7_kindOfWord_50 : decode bX7_kindOfWord 50 = .ok (.ireturn, 1) := by decide +kernel
theorem dX7_kindOfWord_51 : decode bX7_kindOfWord 51 = .ok (.lconst 0, 1) := by decide +kernel
theorem dX7_kindOfWord_52 : decode bX7_kindOfWord 52 = .ok (.lstore_n 3, 1) := by decide +kernel
theorem dX7_kindOfWord_53 : decode bX7_kindOfWord 53 = .ok (.iinc 2 1, 3) := by decide +kernel
theorem dX7_kindOfWord_56 : decode bX7_kindOfWord 56 = .ok (.iinc 5 1, 3) := by decide +kernel
theorem dX7_kindOfWord_59 : decode bX7_kindOfWord 59 = .ok (.goto (-52), 3) := by decide +kernel
theorem dX7_kindOfWord_62 : decode bX7_kindOfWord 62 = .ok (.bipush 22, 2) := by decide +kernel
theorem dX7_kindOfWord_64 : decode bX7_kindOfWord 64 = .ok (.ireturn, 1) := by decide +kernel
set_option maxRecDepth 20000 in
set_option maxHeartbeats 4000000 in
theorem cX7_kindOfWord {l : Launch} {k : Kx} {F : Nat} {a0 : Int64} {μ μ' : Mm} {r : Int32} (hk : kok k) (hf : fX7_kindOfWord F a0 μ = some (r, μ')) : MM l k 4 yX7_kindOfWord bX7_kindOfWord 7 (some .int) [.long a0] μ (some (.int r)) μ' := by
  refine MM.of (lv := [(0, .long a0)]) (plainFor_of_name (by decide)) hk (Nat.le_of_ble_eq_true rfl) rfl (fun z hl hx => ?_)
  subst hl
  have hx : Ok z k bX7_kindOfWord 7 "RopeDance$Tape" (some .int) 4 (0, 0) := hx
  have L56 : ∀ (K7 : Int64 → Int32 → Int64 → Int32 → Mm → Option (Int32 × Mm)) (HK7 : ∀ (v0 : Int64) (v2 : Int32) (v3 : Int64) (v5 : Int32) (μ : Mm), K7 v0 v2 v3 v5 μ = some (r, μ') → Gw z k 7 (k, (0, 0), (some .int), (some (.int r)), μ') (0, 0) 7 μ [(0, .long v0), (2, .int v2), (3, .long v3), (5, .int v5)] []) (v0 : Int64) (v2 : Int32) (v3 : Int64) (v5 : Int32) (μ : Mm), fX7_kindOfWord_L56 F K7 v0 v2 v3 v5 μ = some (r, μ') → Gw z k 7 (k, (0, 0), (some .int), (some (.int r)), μ') (0, 0) 56 μ [(0, .long v0), (2, .int v2), (3, .long v3), (5, .int v5)] [] := by
    intro K7 HK7 v0 v2 v3 v5 μ hf
    unfold fX7_kindOfWord_L56 at hf
    refine r_iinc (lv' := [(5, .int (v5 + 1)), (0, .long v0), (2, .int v2), (3, .long v3)]) hx 3 rfl (congrArg (fun y => v5 + y) ci_1) (Nat.le_of_ble_eq_true rfl) rfl dX7_kindOfWord_56 ?_
    refine r_goto (tgt := 7) hx rfl dX7_kindOfWord_59 ?_
    refine r_sub [1, 2, 3, 0] rfl ?_
    exact HK7 v0 v2 v3 (v5 + 1) μ hf
  have L7 : ∀ (n : Nat) (v0 : Int64) (v2 : Int32) (v3 : Int64) (v5 : Int32) (μ : Mm), fX7_kindOfWord_L7 F n v0 v2 v3 v5 μ = some (r, μ') → Gw z k 7 (k, (0, 0), (some .int), (some (.int r)), μ') (0, 0) 7 μ [(0, .long v0), (2, .int v2), (3, .long v3), (5, .int v5)] [] := by
    intro  n
    induction n with
    | zero =>
      intro v0 v2 v3 v5 μ hf
      exact f_no (show (none : Option (Int32 × Mm)) = _ from hf)
    | succ n ih =>
      intro v0 v2 v3 v5 μ hf
      rw [fX7_kindOfWord_L7] at hf
      refine r_iload hx 3 rfl dX7_kindOfWord_7 ?_
      refine r_ldcs0 hx dX7_kindOfWord_9 ?_
      obtain ⟨r3, μ2, c1, hf⟩ := f_bd2 hf
      refine r_callVS hx (As := []) (rest := [.int v5]) (st1 := [.int r3, .int v5]) (w := 0) MK_J0_length_8abf5 rfl wi_J0_length_8abf5 we_J0_length_8abf5 wm_X7_98 ⟨Nat.le_refl _, Nat.le_refl _⟩ (cJ0_length_8abf5_w0 hk c1) (by decide) (Nat.le_of_ble_eq_true rfl) rfl rfl (Nat.le_of_ble_eq_true rfl) rfl dX7_kindOfWord_11 (fun hb4 => ?_)
      refine r_icge (tgt := 62) hx rfl dX7_kindOfWord_14 (fun q5 => ?_) (fun q5 => ?_)
      · have hf := (f_ite hf).1 q5
        refine r_bipush hx cb_22 dX7_kindOfWord_62 ?_
        exact r_iret hx hf dX7_kindOfWord_64
      · have hf := (f_ite hf).2 q5
        refine r_ldcs0 hx dX7_kindOfWord_17 ?_
        refine r_iload hx 3 rfl dX7_kindOfWord_19 ?_
        obtain ⟨r8, μ7, c6, hf⟩ := f_bd2 hf
        refine r_callVS hx (As := [.int v5]) (rest := []) (st1 := [.int r8]) (w := 0) MK_J0_charAt_5068e rfl wi_J0_charAt_5068e we_J0_charAt_5068e wm_X7_101 ⟨Nat.le_refl _, Nat.le_refl _⟩ (cJ0_charAt_5068e_w0 hk c6) (by decide) (Nat.le_of_ble_eq_true rfl) rfl rfl (Nat.le_of_ble_eq_true rfl) rfl dX7_kindOfWord_21 (fun hb9 => ?_)
        refine r_istore (lv' := [(6, .int r8), (0, .long v0), (2, .int v2), (3, .long v3), (5, .int v5)]) hx (Nat.le_of_ble_eq_true rfl) rfl dX7_kindOfWord_24 ?_
        refine r_iload hx 0 rfl dX7_kindOfWord_26 ?_
        refine r_bipush hx cb_32 dX7_kindOfWord_28 ?_
        refine r_iceq (tgt := 43) hx rfl dX7_kindOfWord_30 (fun q10 => ?_) (fun q10 => ?_)
        · have hf := (f_ite hf).1 q10
          refine r_lloadn hx 3 rfl rfl dX7_kindOfWord_43 ?_
          refine r_lloadn hx 1 rfl rfl dX7_kindOfWord_44 ?_
          refine r_lcmp hx dX7_kindOfWord_45 ?_
          refine r_ifne (tgt := 51) hx rfl dX7_kindOfWord_46 (fun q11 => ?_) (fun q11 => ?_)
          · have hf := (f_ite hf).2 q11
            refine r_lconst (v := 0) hx rfl dX7_kindOfWord_51 ?_
            refine r_lstoren (lv' := [(3, .long 0), (6, .int r8), (0, .long v0), (2, .int v2), (5, .int v5)]) hx rfl (Nat.le_of_ble_eq_true rfl) rfl dX7_kindOfWord_52 ?_
            refine r_iinc (lv' := [(2, .int (v2 + 1)), (3, .long 0), (6, .int r8), (0, .long v0), (5, .int v5)]) hx 3 rfl (congrArg (fun y => v2 + y) ci_1) (Nat.le_of_ble_eq_true rfl) rfl dX7_kindOfWord_53 ?_
            refine r_sub [3, 0, 1, 4] rfl ?_
            exact L56 _ ih  v0 (v2 + 1) 0 v5 μ7 hf
          · have hf := (f_ite hf).1 q11
            refine r_iloadn hx 2 rfl rfl dX7_kindOfWord_49 ?_
            exact r_iret hx hf dX7_kindOfWord_50
        · have hf := (f_ite hf).2 q10
          refine r_lloadn hx 3 rfl rfl dX7_kindOfWord_33 ?_
          refine r_iload hx 0 rfl dX7_kindOfWord_34 ?_
          obtain ⟨r14, μ13, c12, hf⟩ := f_bd2 hf
          refine r_callS hx (As := [.long v3, .int r8]) (rest := []) (st1 := [.long r14]) MK_X7_withLetter ws_X7_withLetter wm_X7_88 ⟨Nat.le_refl _, Nat.le_refl _⟩ (cX7_withLetter hk c12) (Nat.le_of_ble_eq_true rfl) rfl rfl (Nat.le_of_ble_eq_true rfl) rfl dX7_kindOfWord_36 (fun hb15 => ?_)
          refine r_lstoren (lv' := [(3, .long r14), (6, .int r8), (0, .long v0), (2, .int v2), (5, .int v5)]) hx rfl (Nat.le_of_ble_eq_true rfl) rfl dX7_kindOfWord_39 ?_
          refine r_goto (tgt := 56) hx rfl dX7_kindOfWord_40 ?_
          refine r_sub [2, 3, 0, 4] rfl ?_
          exact L56 _ ih  v0 v2 r14 v5 μ13 hf
  unfold fX7_kindOfWord at hf
  refine r_iconst hx ci_0 dX7_kindOfWord_0 ?_
  refine r_istoren (lv' := [(2, .int 0), (0, .long a0)]) hx rfl (Nat.le_of_ble_eq_true rfl) rfl dX7_kindOfWord_1 ?_
  refine r_lconst (v := 0) hx rfl dX7_kindOfWord_2 ?_
  refine r_lstoren (lv' := [(3, .long 0), (2, .int 0), (0, .long a0)]) hx rfl (Nat.le_of_ble_eq_true rfl) rfl dX7_kindOfWord_3 ?_
  refine r_iconst hx ci_0 dX7_kindOfWord_4 ?_
  refine r_istore (lv' := [(5, .int 0), (3, .long 0), (2, .int 0), (0, .long a0)]) hx (Nat.le_of_ble_eq_true rfl) rfl dX7_kindOfWord_5 ?_
  refine r_sub [3, 2, 1, 0] rfl ?_
  exact L7 F a0 0 0 0 μ hf
theorem dX7_scanWord_0 : decode bX7_scanWord 0 = .ok (.iload_n 2, 1) := by decide +kernel
theorem dX7_scanWord_1 : decode bX7_scanWord 1 = .ok (.istore_n 3, 1) := by decide +kernel
theorem dX7_scanWord_2 : decode bX7_scanWord 2 = .ok (.lconst 0, 1) := by decide +kernel
theorem dX7_scanWord_3 : decode bX7_scanWord 3 = .ok (.lstore 4, 2) := by decide +kernel
theorem dX7_scanWord_5 : decode bX7_scanWord 5 = .ok (.iload_n 3, 1) := by decide +kernel
theorem dX7_scanWord_6 : decode bX7_scanWord 6 = .ok (.aload_n 0, 1) := by decide +kernel
theorem dX7_scanWord_7 : decode bX7_scanWord 7 = .ok (.getfield 27, 3) := by decide +kernel
theorem dX7_scanWord_10 : decode bX7_scanWord 10 = .ok (.if_icmp .ge 32, 3) := by decide +kernel
theorem dX7_scanWord_13 : decode bX7_scanWord 13 = .ok (.aload_n 0, 1) := by decide +kernel
theorem dX7_scanWord_14 : decode bX7_scanWord 14 = .ok (.iload_n 3, 1) := by decide +kernel
theorem dX7_scanWord_15 : decode bX7_scanWord 15 = .ok (.invokevirtual 63, 3) := by decide +kernel
theorem dX7_scanWord_18 : decode bX7_scanWord 18 = .ok (.invokestatic 69, 3) := by decide +kernel
theorem dX7_scanWord_21 : decode bX7_scanWord 21 = .ok (.ifCond .eq 21, 3) := by decide +kernel
theorem dX7_scanWord_24 : decode bX7_scanWord 24 = .ok (.lload 4, 2) := by decide +kernel
theorem dX7_scanWord_26 : decode bX7_scanWord 26 = .ok (.aload_n 0, 1) := by decide +kernel
theorem dX7_scanWord_27 : decode bX7_scanWord 27 = .ok (.iload_n 3, 1) := by decide +kernel
theorem dX7_scanWord_28 : decode bX7_scanWord 28 = .ok (.invokevirtual 63, 3) := by decide +kernel
theorem dX7_scanWord_31 : decode bX7_scanWord 31 = .ok (.invokestatic 88, 3) := by decide +kernel
theorem dX7_scanWord_34 : decode bX7_scanWord 34 = .ok (.lstore 4, 2) := by decide +kernel
theorem dX7_scanWord_36 : decode bX7_scanWord 36 = .ok (.iinc 3 1, 3) := by decide +kernel
theorem dX7_scanWord_39 : decode bX7_scanWord 39 = .ok (.goto (-34), 3) := by decide +kernel
theorem dX7_scanWord_42 : decode bX7_scanWord 42 = .ok (.aload_n 0, 1) := by decide +kernel
theorem dX7_scanWord_43 : decode bX7_scanWord 43 = .ok (.getfield 23, 3) := by decide +kernel
theorem dX7_scanWord_46 : decode bX7_scanWord 46 = .ok (.iload_n 1, 1) := by decide +kernel
theorem dX7_scanWord_47 : decode bX7_scanWord 47 = .ok (.lload 4, 2) := by decide +kernel
theorem dX7_scanWord_49 : decode bX7_scanWord 49 = .ok (.lastore, 1) := by decide +kernel
theorem dX7_scanWord_50 : decode bX7_scanWord 50 = .ok (.aload_n 0, 1) := by decide +kernel
theorem dX7_scanWord_51 : decode bX7_scanWord 51 = .ok (.getfield 13, 3) := by decide +kernel
theorem dX7_scanWord_54 : decode bX7_scanWord 54 = .ok (.iload_n 1, 1) := by decide +kernel
theorem dX7_scanWord_55 : decode bX7_scanWord 55 = .ok (.iload_n 3, 1) := by decide +kernel
theorem dX7_scanWord_56 : decode bX7_scanWord 56 = .ok (.iload_n 2, 1) := by decide +kernel
theorem dX7_scanWord_57 : decode bX7_scanWord 57 = .ok (.isub, 1) := by decide +kernel
theorem dX7_scanWord_58 : decode bX7_scanWord 58 = .ok (.bipush 8, 2) := by decide +kernel
theorem dX7_scanWord_60 : decode bX7_scanWord 60 = .ok (.if_icmp .le 8, 3) := by decide +kernel
theorem dX7_scanWord_63 : decode bX7_scanWord 63 = .ok (.bipush 34, 2) := by decide +kernel
theorem dX7_scanWord_65 : decode bX7_scanWord 65 = .ok (.goto 8, 3) := by decide +kernel
theorem dX7_scanWord_68 : decode bX7_scanWord 68 = .ok (.lload 4, 2) := by decide +kernel
theorem dX7_scanWord_70 : decode bX7_scanWord 70 = .ok (.invokestatic 92, 3) := by decide +kernel
theorem dX7_scanWord_73 : decode bX7_scanWord 73 = .ok (.iastore, 1) := by decide +kernel
theorem dX7_scanWord_74 : decode bX7_scanWord 74 = .ok (.iload_n 3, 1) := by decide +kernel
theorem dX7_scanWord_75 : decode bX7_scanWord 75 = .ok (.ireturn, 1) := by decide +kernel
set_option maxRecDepth 20000 in
set_option maxHeartbeats 4000000 in
theorem cX7_scanWord {l : Launch} {k : Kx} {F : Nat} {a1 : Int32} {a2 : Int32} {μ μ' : Mm} {r : Int32} (hk : kok k) (e_this : kex k 7 0) (hf : fX7_scanWord F a1 a2 μ = some (r, μ')) : MM l k 5 yX7_scanWord bX7_scanWord 6 (some .int) [.ref (kad k 7 0), .int a1, .int a2] μ (some (.int r)) μ' := by
  refine MM.of (lv := [(0, .ref (kad k 7 0)), (1, .int a1), (2, .int a2)]) (plainFor_of_name (by decide)) hk (Nat.le_of_ble_eq_true rfl) rfl (fun z hl hx => ?_)
  subst hl
  have hx : Ok z k bX7_scanWord 6 "RopeDance$Tape" (some .int) 5 (0, 0) := hx
  have L73 : ∀ (v3 : Int32) (s1 : Int32) (s2 : Int32) (μ : Mm) (e_s0 : kex k 30 0), fX7_scanWord_L73 F v3 s1 s2 μ = some (r, μ') → Gw z k 6 (k, (0, 0), (some .int), (some (.int r)), μ') (0, 0) 73 μ [(3, .int v3)] [.int s2, .int s1, .ref (kad k 30 0)] := by
    intro  v3 s1 s2 μ e_s0 hf
    unfold fX7_scanWord_L73 at hf
    obtain ⟨b10, hf⟩ := f_chk hf
    refine r_iast hx (by decide) rfl e_s0 b10 rfl dX7_scanWord_73 ?_
    refine r_iloadn hx 0 rfl rfl dX7_scanWord_74 ?_
    exact r_iret hx hf dX7_scanWord_75
  have L42 : ∀ (v1 : Int32) (v2 : Int32) (v3 : Int32) (v4 : Int64) (μ : Mm) (e_v0 : kex k 7 0), fX7_scanWord_L42 F v1 v2 v3 v4 μ = some (r, μ') → Gw z k 6 (k, (0, 0), (some .int), (some (.int r)), μ') (0, 0) 42 μ [(0, .ref (kad k 7 0)), (1, .int v1), (2, .int v2), (3, .int v3), (4, .long v4)] [] := by
    intro  v1 v2 v3 v4 μ e_v0 hf
    unfold fX7_scanWord_L42 at hf
    refine r_aloadn hx 0 rfl rfl dX7_scanWord_42 ?_
    refine r_getR hx (c' := 33) (i' := 0) FK7_10 e_v0 rfl wf_X7_23 dX7_scanWord_43 (fun e2 => ?_)
    refine r_iloadn hx 1 rfl rfl dX7_scanWord_46 ?_
    refine r_lload hx 4 rfl dX7_scanWord_47 ?_
    obtain ⟨b3, hf⟩ := f_chk hf
    refine r_last hx (by decide) rfl e2 b3 rfl dX7_scanWord_49 ?_
    refine r_aloadn hx 0 rfl rfl dX7_scanWord_50 ?_
    refine r_getR hx (c' := 30) (i' := 0) FK7_7 e_v0 rfl wf_X7_13 dX7_scanWord_51 (fun e4 => ?_)
    refine r_iloadn hx 1 rfl rfl dX7_scanWord_54 ?_
    refine r_iloadn hx 3 rfl rfl dX7_scanWord_55 ?_
    refine r_iloadn hx 2 rfl rfl dX7_scanWord_56 ?_
    refine r_isub hx dX7_scanWord_57 ?_
    refine r_bipush hx cb_8 dX7_scanWord_58 ?_
    refine r_icle (tgt := 68) hx rfl dX7_scanWord_60 (fun q5 => ?_) (fun q5 => ?_)
    · have hf := (f_ite hf).1 q5
      refine r_lload hx 4 rfl dX7_scanWord_68 ?_
      obtain ⟨r8, μ7, c6, hf⟩ := f_bd2 hf
      refine r_callS hx (As := [.long v4]) (rest := [.int v1, .ref (kad k 30 0)]) (st1 := [.int r8, .int v1, .ref (kad k 30 0)]) MK_X7_kindOfWord ws_X7_kindOfWord wm_X7_92 ⟨Nat.le_refl _, Nat.le_refl _⟩ (cX7_kindOfWord hk c6) (Nat.le_of_ble_eq_true rfl) rfl rfl (Nat.le_of_ble_eq_true rfl) rfl dX7_scanWord_70 (fun hb9 => ?_)
      refine r_sub [3] rfl ?_
      exact L73  v3 v1 r8 μ7 e4 hf
    · have hf := (f_ite hf).2 q5
      refine r_bipush hx cb_34 dX7_scanWord_63 ?_
      refine r_goto (tgt := 73) hx rfl dX7_scanWord_65 ?_
      refine r_sub [3] rfl ?_
      exact L73  v3 v1 34 (sj μ 33 0 v1.toNatClampNeg v4) e4 hf
  have L5 : ∀ (n : Nat) (v1 : Int32) (v2 : Int32) (v3 : Int32) (v4 : Int64) (μ : Mm) (e_v0 : kex k 7 0), fX7_scanWord_L5 F n v1 v2 v3 v4 μ = some (r, μ') → Gw z k 6 (k, (0, 0), (some .int), (some (.int r)), μ') (0, 0) 5 μ [(0, .ref (kad k 7 0)), (1, .int v1), (2, .int v2), (3, .int v3), (4, .long v4)] [] := by
    intro  n
    induction n with
    | zero =>
      intro v1 v2 v3 v4 μ e_v0 hf
      exact f_no (show (none : Option (Int32 × Mm)) = _ from hf)
    | succ n ih =>
      intro v1 v2 v3 v4 μ e_v0 hf
      rw [fX7_scanWord_L5] at hf
      refine r_iloadn hx 3 rfl rfl dX7_scanWord_5 ?_
      refine r_aloadn hx 0 rfl rfl dX7_scanWord_6 ?_
      refine r_getI hx FK7_0 e_v0 wf_X7_27 dX7_scanWord_7 ?_
      refine r_icge (tgt := 42) hx rfl dX7_scanWord_10 (fun q1 => ?_) (fun q1 => ?_)
      · have hf := (f_ite hf).1 q1
        refine r_sub [0, 1, 2, 3, 4] rfl ?_
        exact L42  v1 v2 v3 v4 μ e_v0 hf
      · have hf := (f_ite hf).2 q1
        refine r_aloadn hx 0 rfl rfl dX7_scanWord_13 ?_
        refine r_iloadn hx 3 rfl rfl dX7_scanWord_14 ?_
        obtain ⟨r13, μ12, c11, hf⟩ := f_bd2 hf
        refine r_callV hx (As := [.int v3]) (rest := []) (st1 := [.int r13]) (c := 7) (i := 0) (TT := T7) (N := 11) MK_X7_byteAt rfl wi_X7_byteAt we_X7_byteAt wm_X7_63 ⟨Nat.le_refl _, Nat.le_refl _⟩ (cX7_byteAt hk e_v0 c11) e_v0 (Nat.le_of_ble_eq_true rfl) rfl rfl (Nat.le_of_ble_eq_true rfl) rfl dX7_scanWord_15 (fun hb14 => ?_)
        obtain ⟨r17, μ16, c15, hf⟩ := f_bd2 hf
        refine r_callS hx (As := [.int r13]) (rest := []) (st1 := [.int r17]) MK_X7_isLetter ws_X7_isLetter wm_X7_69 ⟨Nat.le_refl _, Nat.le_refl _⟩ (cX7_isLetter hk c15) (Nat.le_of_ble_eq_true rfl) rfl rfl (Nat.le_of_ble_eq_true rfl) rfl dX7_scanWord_18 (fun hb18 => ?_)
        refine r_ifeq (tgt := 42) hx rfl dX7_scanWord_21 (fun q19 => ?_) (fun q19 => ?_)
        · have hf := (f_ite hf).1 q19
          refine r_sub [0, 1, 2, 3, 4] rfl ?_
          exact L42  v1 v2 v3 v4 μ16 e_v0 hf
        · have hf := (f_ite hf).2 q19
          refine r_lload hx 4 rfl dX7_scanWord_24 ?_
          refine r_aloadn hx 0 rfl rfl dX7_scanWord_26 ?_
          refine r_iloadn hx 3 rfl rfl dX7_scanWord_27 ?_
          obtain ⟨r22, μ21, c20, hf⟩ := f_bd2 hf
          refine r_callV hx (As := [.int v3]) (rest := [.long v4]) (st1 := [.int r22, .long v4]) (c := 7) (i := 0) (TT := T7) (N := 11) MK_X7_byteAt rfl wi_X7_byteAt we_X7_byteAt wm_X7_63 ⟨Nat.le_refl _, Nat.le_refl _⟩ (cX7_byteAt hk e_v0 c20) e_v0 (Nat.le_of_ble_eq_true rfl) rfl rfl (Nat.le_of_ble_eq_true rfl) rfl dX7_scanWord_28 (fun hb23 => ?_)
          obtain ⟨r26, μ25, c24, hf⟩ := f_bd2 hf
          refine r_callS hx (As := [.long v4, .int r22]) (rest := []) (st1 := [.long r26]) MK_X7_withLetter ws_X7_withLetter wm_X7_88 ⟨Nat.le_refl _, Nat.le_refl _⟩ (cX7_withLetter hk c24) (Nat.le_of_ble_eq_true rfl) rfl rfl (Nat.le_of_ble_eq_true rfl) rfl dX7_scanWord_31 (fun hb27 => ?_)
          refine r_lstore (lv' := [(4, .long r26), (0, .ref (kad k 7 0)), (1, .int v1), (2, .int v2), (3, .int v3)]) hx (Nat.le_of_ble_eq_true rfl) rfl dX7_scanWord_34 ?_
          refine r_iinc (lv' := [(3, .int (v3 + 1)), (4, .long r26), (0, .ref (kad k 7 0)), (1, .int v1), (2, .int v2)]) hx 4 rfl (congrArg (fun y => v3 + y) ci_1) (Nat.le_of_ble_eq_true rfl) rfl dX7_scanWord_36 ?_
          refine r_goto (tgt := 5) hx rfl dX7_scanWord_39 ?_
          refine r_sub [2, 3, 4, 0, 1] rfl ?_
          exact ih v1 v2 (v3 + 1) r26 μ25 e_v0 hf
  unfold fX7_scanWord at hf
  refine r_iloadn hx 2 rfl rfl dX7_scanWord_0 ?_
  refine r_istoren (lv' := [(3, .int a2), (0, .ref (kad k 7 0)), (1, .int a1), (2, .int a2)]) hx rfl (Nat.le_of_ble_eq_true rfl) rfl dX7_scanWord_1 ?_
  refine r_lconst (v := 0) hx rfl dX7_scanWord_2 ?_
  refine r_lstore (lv' := [(4, .long 0), (3, .int a2), (0, .ref (kad k 7 0)), (1, .int a1), (2, .int a2)]) hx (Nat.le_of_ble_eq_true rfl) rfl dX7_scanWord_3 ?_
  refine r_sub [2, 3, 4, 1, 0] rfl ?_
  exact L5 F a1 a2 a2 0 μ e_this hf
theorem dX7_isDigit_0 : decode bX7_isDigit 0 = .ok (.iload_n 0, 1) := by decide +kernel
theorem dX7_isDigit_1 : decode bX7_isDigit 1 = .ok (.bipush 48, 2) := by decide +kernel
theorem dX7_isDigit_3 : decode bX7_isDigit 3 = .ok (.if_icmp .lt 13, 3) := by decide +kernel
theorem dX7_isDigit_6 : decode bX7_isDigit 6 = .ok (.iload_n 0, 1) := by decide +kernel
theorem dX7_isDigit_7 : decode bX7_isDigit 7 = .ok (.bipush 57, 2) := by decide +kernel
theorem dX7_isDigit_9 : decode bX7_isDigit 9 = .ok (.if_icmp .gt 7, 3) := by decide +kernel
theorem dX7_isDigit_12 : decode bX7_isDigit 12 = .ok (.iconst 1, 1) := by decide +kernel
theorem dX7_isDigit_13 : decode bX7_isDigit 13 = .ok (.goto 4, 3) := by decide +kernel
theorem dX7_isDigit_16 : decode bX7_isDigit 16 = .ok (.iconst 0, 1) := by decide +kernel
theorem dX7_isDigit_17 : decode bX7_isDigit 17 = .ok (.ireturn, 1) := by decide +kernel
set_option maxRecDepth 20000 in
set_option maxHeartbeats 4000000 in
theorem cX7_isDigit {l : Launch} {k : Kx} {F : Nat} {a0 : Int32} {μ μ' : Mm} {r : Int32} (hk : kok k) (hf : fX7_isDigit F a0 μ = some (r, μ')) : MM l k 0 yX7_isDigit bX7_isDigit 1 (some .boolean) [.int a0] μ (some (.int r)) μ' := by
  refine MM.of (lv := [(0, .int a0)]) (plainFor_of_name (by decide)) hk (Nat.le_of_ble_eq_true rfl) rfl (fun z hl hx => ?_)
  subst hl
  have hx : Ok z k bX7_isDigit 1 "RopeDance$Tape" (some .boolean) 0 (0, 0) := hx
  unfold fX7_isDigit at hf
  refine r_iloadn hx 0 rfl rfl dX7_isDigit_0 ?_
  refine r_bipush hx cb_48 dX7_isDigit_1 ?_
  refine r_iclt (tgt := 16) hx rfl dX7_isDigit_3 (fun q1 => ?_) (fun q1 => ?_)
  · have hf := (f_ite hf).1 q1
    refine r_iconst hx ci_0 dX7_isDigit_16 ?_
    exact r_zret hx hf rfl dX7_isDigit_17
  · have hf := (f_ite hf).2 q1
    refine r_iloadn hx 0 rfl rfl dX7_isDigit_6 ?_
    refine r_bipush hx cb_57 dX7_isDigit_7 ?_
    refine r_icgt (tgt := 16) hx rfl dX7_isDigit_9 (fun q2 => ?_) (fun q2 => ?_)
    · have hf := (f_ite hf).1 q2
      refine r_iconst hx ci_0 dX7_isDigit_16 ?_
      exact r_zret hx hf rfl dX7_isDigit_17
    · have hf := (f_ite hf).2 q2
      refine r_iconst hx ci_1 dX7_isDigit_12 ?_
      refine r_goto (tgt := 17) hx rfl dX7_isDigit_13 ?_
      exact r_zret hx hf rfl dX7_isDigit_17
theorem dX7_scanInt_0 : decode bX7_scanInt 0 = .ok (.iload_n 2, 1) := by decide +kernel
theorem dX7_scanInt_1 : decode bX7_scanInt 1 = .ok (.istore_n 3, 1) := by decide +kernel
theorem dX7_scanInt_2 : decode bX7_scanInt 2 = .ok (.iconst 0, 1) := by decide +kernel
theorem dX7_scanInt_3 : decode bX7_scanInt 3 = .ok (.istore 4, 2) := by decide +kernel
theorem dX7_scanInt_5 : decode bX7_scanInt 5 = .ok (.iload_n 3, 1) := by decide +kernel
theorem dX7_scanInt_6 : decode bX7_scanInt 6 = .ok (.aload_n 0, 1) := by decide +kernel
theorem dX7_scanInt_7 : decode bX7_scanInt 7 = .ok (.getfield 27, 3) := by decide +kernel
theorem dX7_scanInt_10 : decode bX7_scanInt 10 = .ok (.if_icmp .ge 36, 3) := by decide +kernel
theorem dX7_scanInt_13 : decode bX7_scanInt 13 = .ok (.aload_n 0, 1) := by decide +kernel
theorem dX7_scanInt_14 : decode bX7_scanInt 14 = .ok (.iload_n 3, 1) := by decide +kernel
theorem dX7_scanInt_15 : decode bX7_scanInt 15 = .ok (.invokevirtual 63, 3) := by decide +kernel
theorem dX7_scanInt_18 : decode bX7_scanInt 18 = .ok (.invokestatic 75, 3) := by decide +kernel
theorem dX7_scanInt_21 : decode bX7_scanInt 21 = .ok (.ifCond .eq 25, 3) := by decide +kernel
theorem dX7_scanInt_24 : decode bX7_scanInt 24 = .ok (.iload 4, 2) := by decide +kernel
theorem dX7_scanInt_26 : decode bX7_scanInt 26 = .ok (.bipush 10, 2) := by decide +kernel
theorem dX7_scanInt_28 : decode bX7_scanInt 28 = .ok (.imul, 1) := by decide +kernel
theorem dX7_scanInt_29 : decode bX7_scanInt 29 = .ok (.aload_n 0, 1) := by decide +kernel
theorem dX7_scanInt_30 : decode bX7_scanInt 30 = .ok (.iload_n 3, 1) := by decide +kernel
theorem dX7_scanInt_31 : decode bX7_scanInt 31 = .ok (.invokevirtual 63, 3) := by decide +kernel
theorem dX7_scanInt_34 : decode bX7_scanInt 34 = .ok (.iadd, 1) := by decide +kernel
theorem dX7_scanInt_35 : decode bX7_scanInt 35 = .ok (.bipush 48, 2) := by decide +kernel
theorem dX7_scanInt_37 : decode bX7_scanInt 37 = .ok (.isub, 1) := by decide +kernel
theorem dX7_scanInt_38 : decode bX7_scanInt 38 = .ok (.istore 4, 2) := by decide +kernel
theorem dX7_scanInt_40 : decode bX7_scanInt 40 = .ok (.iinc 3 1, 3) := by decide +kernel
theorem dX7_scanInt_43 : decode bX7_scanInt 43 = .ok (.goto (-38), 3) := by decide +kernel
theorem dX7_scanInt_46 : decode bX7_scanInt 46 = .ok (.aload_n 0, 1) := by decide +kernel
theorem dX7_scanInt_47 : decode bX7_scanInt 47 = .ok (.getfield 20, 3) := by decide +kernel
theorem dX7_scanInt_50 : decode bX7_scanInt 50 = .ok (.iload_n 1, 1) := by decide +kernel
theorem dX7_scanInt_51 : decode bX7_scanInt 51 = .ok (.iload 4, 2) := by decide +kernel
theorem dX7_scanInt_53 : decode bX7_scanInt 53 = .ok (.iastore, 1) := by decide +kernel
theorem dX7_scanInt_54 : decode bX7_scanInt 54 = .ok (.aload_n 0, 1) := by decide +kernel
theorem dX7_scanInt_55 : decode bX7_scanInt 55 = .ok (.getfield 13, 3) := by decide +kernel
theorem dX7_scanInt_58 : decode bX7_scanInt 58 = .ok (.iload_n 1, 1) := by decide +kernel
theorem dX7_scanInt_59 : decode bX7_scanInt 59 = .ok (.iload_n 3, 1) := by decide +kernel
theorem dX7_scanInt_60 : decode bX7_scanInt 60 = .ok (.iload_n 2, 1) := by decide +kernel
theorem dX7_scanInt_61 : decode bX7_scanInt 61 = .ok (.isub, 1) := by decide +kernel
theorem dX7_scanInt_62 : decode bX7_scanInt 62 = .ok (.iconst 4, 1) := by decide +kernel
theorem dX7_scanInt_63 : decode bX7_scanInt 63 = .ok (.if_icmp .le 8, 3) := by decide +kernel
theorem dX7_scanInt_66 : decode bX7_scanInt 66 = .ok (.bipush 34, 2) := by decide +kernel
theorem dX7_scanInt_68 : decode bX7_scanInt 68 = .ok (.goto 5, 3) := by decide +kernel
theorem dX7_scanInt_71 : decode bX7_scanInt 71 = .ok (.bipush 23, 2) := by decide +kernel
theorem dX7_scanInt_73 : decode bX7_scanInt 73 = .ok (.iastore, 1) := by decide +kernel
theorem dX7_scanInt_74 : decode bX7_scanInt 74 = .ok (.iload_n 3, 1) := by decide +kernel
theorem dX7_scanInt_75 : decode bX7_scanInt 75 = .ok (.ireturn, 1) := by decide +kernel
set_option maxRecDepth 20000 in
set_option maxHeartbeats 4000000 in
theorem cX7_scanInt {l : Launch} {k : Kx} {F : Nat} {a1 : Int32} {a2 : Int32} {μ μ' : Mm} {r : Int32} (hk : kok k) (e_this : kex k 7 0) (hf : fX7_scanInt F a1 a2 μ = some (r, μ')) : MM l k 1 yX7_scanInt bX7_scanInt 5 (some .int) [.ref (kad k 7 0), .int a1, .int a2] μ (some (.int r)) μ' := by
  refine MM.of (lv := [(0, .ref (kad k 7 0)), (1, .int a1), (2, .int a2)]) (plainFor_of_name (by decide)) hk (Nat.le_of_ble_eq_true rfl) rfl (fun z hl hx => ?_)
  subst hl
  have hx : Ok z k bX7_scanInt 5 "RopeDance$Tape" (some .int) 1 (0, 0) := hx
  have L73 : ∀ (v3 : Int32) (s1 : Int32) (s2 : Int32) (μ : Mm) (e_s0 : kex k 30 0), fX7_scanInt_L73 F v3 s1 s2 μ = some (r, μ') → Gw z k 5 (k, (0, 0), (some .int), (some (.int r)), μ') (0, 0) 73 μ [(3, .int v3)] [.int s2, .int s1, .ref (kad k 30 0)] := by
    intro  v3 s1 s2 μ e_s0 hf
    unfold fX7_scanInt_L73 at hf
    obtain ⟨b6, hf⟩ := f_chk hf
    refine r_iast hx (by decide) rfl e_s0 b6 rfl dX7_scanInt_73 ?_
    refine r_iloadn hx 0 rfl rfl dX7_scanInt_74 ?_
    exact r_iret hx hf dX7_scanInt_75
  have L46 : ∀ (v1 : Int32) (v2 : Int32) (v3 : Int32) (v4 : Int32) (μ : Mm) (e_v0 : kex k 7 0), fX7_scanInt_L46 F v1 v2 v3 v4 μ = some (r, μ') → Gw z k 5 (k, (0, 0), (some .int), (some (.int r)), μ') (0, 0) 46 μ [(0, .ref (kad k 7 0)), (1, .int v1), (2, .int v2), (3, .int v3), (4, .int v4)] [] := by
    intro  v1 v2 v3 v4 μ e_v0 hf
    unfold fX7_scanInt_L46 at hf
    refine r_aloadn hx 0 rfl rfl dX7_scanInt_46 ?_
    refine r_getR hx (c' := 32) (i' := 0) FK7_9 e_v0 rfl wf_X7_20 dX7_scanInt_47 (fun e2 => ?_)
    refine r_iloadn hx 1 rfl rfl dX7_scanInt_50 ?_
    refine r_iload hx 4 rfl dX7_scanInt_51 ?_
    obtain ⟨b3, hf⟩ := f_chk hf
    refine r_iast hx (by decide) rfl e2 b3 rfl dX7_scanInt_53 ?_
    refine r_aloadn hx 0 rfl rfl dX7_scanInt_54 ?_
    refine r_getR hx (c' := 30) (i' := 0) FK7_7 e_v0 rfl wf_X7_13 dX7_scanInt_55 (fun e4 => ?_)
    refine r_iloadn hx 1 rfl rfl dX7_scanInt_58 ?_
    refine r_iloadn hx 3 rfl rfl dX7_scanInt_59 ?_
    refine r_iloadn hx 2 rfl rfl dX7_scanInt_60 ?_
    refine r_isub hx dX7_scanInt_61 ?_
    refine r_iconst hx ci_4 dX7_scanInt_62 ?_
    refine r_icle (tgt := 71) hx rfl dX7_scanInt_63 (fun q5 => ?_) (fun q5 => ?_)
    · have hf := (f_ite hf).1 q5
      refine r_bipush hx cb_23 dX7_scanInt_71 ?_
      refine r_sub [3] rfl ?_
      exact L73  v3 v1 23 (si μ 32 0 v1.toNatClampNeg v4) e4 hf
    · have hf := (f_ite hf).2 q5
      refine r_bipush hx cb_34 dX7_scanInt_66 ?_
      refine r_goto (tgt := 73) hx rfl dX7_scanInt_68 ?_
      refine r_sub [3] rfl ?_
      exact L73  v3 v1 34 (si μ 32 0 v1.toNatClampNeg v4) e4 hf
  have L5 : ∀ (n : Nat) (v1 : Int32) (v2 : Int32) (v3 : Int32) (v4 : Int32) (μ : Mm) (e_v0 : kex k 7 0), fX7_scanInt_L5 F n v1 v2 v3 v4 μ = some (r, μ') → Gw z k 5 (k, (0, 0), (some .int), (some (.int r)), μ') (0, 0) 5 μ [(0, .ref (kad k 7 0)), (1, .int v1), (2, .int v2), (3, .int v3), (4, .int v4)] [] := by
    intro  n
    induction n with
    | zero =>
      intro v1 v2 v3 v4 μ e_v0 hf
      exact f_no (show (none : Option (Int32 × Mm)) = _ from hf)
    | succ n ih =>
      intro v1 v2 v3 v4 μ e_v0 hf
      rw [fX7_scanInt_L5] at hf
      refine r_iloadn hx 3 rfl rfl dX7_scanInt_5 ?_
      refine r_aloadn hx 0 rfl rfl dX7_scanInt_6 ?_
      refine r_getI hx FK7_0 e_v0 wf_X7_27 dX7_scanInt_7 ?_
      refine r_icge (tgt := 46) hx rfl dX7_scanInt_10 (fun q1 => ?_) (fun q1 => ?_)
      · have hf := (f_ite hf).1 q1
        refine r_sub [0, 1, 2, 3, 4] rfl ?_
        exact L46  v1 v2 v3 v4 μ e_v0 hf
      · have hf := (f_ite hf).2 q1
        refine r_aloadn hx 0 rfl rfl dX7_scanInt_13 ?_
        refine r_iloadn hx 3 rfl rfl dX7_scanInt_14 ?_
        obtain ⟨r9, μ8, c7, hf⟩ := f_bd2 hf
        refine r_callV hx (As := [.int v3]) (rest := []) (st1 := [.int r9]) (c := 7) (i := 0) (TT := T7) (N := 11) MK_X7_byteAt rfl wi_X7_byteAt we_X7_byteAt wm_X7_63 ⟨Nat.le_refl _, Nat.le_refl _⟩ (cX7_byteAt hk e_v0 c7) e_v0 (Nat.le_of_ble_eq_true rfl) rfl rfl (Nat.le_of_ble_eq_true rfl) rfl dX7_scanInt_15 (fun hb10 => ?_)
        obtain ⟨r13, μ12, c11, hf⟩ := f_bd2 hf
        refine r_callS hx (As := [.int r9]) (rest := []) (st1 := [.int r13]) MK_X7_isDigit ws_X7_isDigit wm_X7_75 ⟨Nat.le_refl _, Nat.le_refl _⟩ (cX7_isDigit hk c11) (Nat.le_of_ble_eq_true rfl) rfl rfl (Nat.le_of_ble_eq_true rfl) rfl dX7_scanInt_18 (fun hb14 => ?_)
        refine r_ifeq (tgt := 46) hx rfl dX7_scanInt_21 (fun q15 => ?_) (fun q15 => ?_)
        · have hf := (f_ite hf).1 q15
          refine r_sub [0, 1, 2, 3, 4] rfl ?_
          exact L46  v1 v2 v3 v4 μ12 e_v0 hf
        · have hf := (f_ite hf).2 q15
          refine r_iload hx 4 rfl dX7_scanInt_24 ?_
          refine r_bipush hx cb_10 dX7_scanInt_26 ?_
          refine r_imul hx dX7_scanInt_28 ?_
          refine r_aloadn hx 0 rfl rfl dX7_scanInt_29 ?_
          refine r_iloadn hx 3 rfl rfl dX7_scanInt_30 ?_
          obtain ⟨r18, μ17, c16, hf⟩ := f_bd2 hf
          refine r_callV hx (As := [.int v3]) (rest := [.int (v4 * 10)]) (st1 := [.int r18, .int (v4 * 10)]) (c := 7) (i := 0) (TT := T7) (N := 11) MK_X7_byteAt rfl wi_X7_byteAt we_X7_byteAt wm_X7_63 ⟨Nat.le_refl _, Nat.le_refl _⟩ (cX7_byteAt hk e_v0 c16) e_v0 (Nat.le_of_ble_eq_true rfl) rfl rfl (Nat.le_of_ble_eq_true rfl) rfl dX7_scanInt_31 (fun hb19 => ?_)
          refine r_iadd hx dX7_scanInt_34 ?_
          refine r_bipush hx cb_48 dX7_scanInt_35 ?_
          refine r_isub hx dX7_scanInt_37 ?_
          refine r_istore (lv' := [(4, .int (((v4 * 10) + r18) - 48)), (0, .ref (kad k 7 0)), (1, .int v1), (2, .int v2), (3, .int v3)]) hx (Nat.le_of_ble_eq_true rfl) rfl dX7_scanInt_38 ?_
          refine r_iinc (lv' := [(3, .int (v3 + 1)), (4, .int (((v4 * 10) + r18) - 48)), (0, .ref (kad k 7 0)), (1, .int v1), (2, .int v2)]) hx 4 rfl (congrArg (fun y => v3 + y) ci_1) (Nat.le_of_ble_eq_true rfl) rfl dX7_scanInt_40 ?_
          refine r_goto (tgt := 5) hx rfl dX7_scanInt_43 ?_
          refine r_sub [2, 3, 4, 0, 1] rfl ?_
          exact ih v1 v2 (v3 + 1) (((v4 * 10) + r18) - 48) μ17 e_v0 hf
  unfold fX7_scanInt at hf
  refine r_iloadn hx 2 rfl rfl dX7_scanInt_0 ?_
  refine r_istoren (lv' := [(3, .int a2), (0, .ref (kad k 7 0)), (1, .int a1), (2, .int a2)]) hx rfl (Nat.le_of_ble_eq_true rfl) rfl dX7_scanInt_1 ?_
  refine r_iconst hx ci_0 dX7_scanInt_2 ?_
  refine r_istore (lv' := [(4, .int 0), (3, .int a2), (0, .ref (kad k 7 0)), (1, .int a1), (2, .int a2)]) hx (Nat.le_of_ble_eq_true rfl) rfl dX7_scanInt_3 ?_
  refine r_sub [2, 3, 4, 1, 0] rfl ?_
  exact L5 F a1 a2 a2 0 μ e_this hf
theorem dJ1_canEncode_9a6ad_0 : decode bJ1_canEncode_9a6ad 0 = .ok (.iload_n 0, 1) := by decide +kernel
theorem dJ1_canEncode_9a6ad_1 : decode bJ1_canEncode_9a6ad 1 = .ok (.ifCond .lt 14, 3) := by decide +kernel
theorem dJ1_canEncode_9a6ad_4 : decode bJ1_canEncode_9a6ad 4 = .ok (.iload_n 0, 1) := by decide +kernel
theorem dJ1_canEncode_9a6ad_5 : decode bJ1_canEncode_9a6ad 5 = .ok (.sipush 255, 3) := by decide +kernel
theorem dJ1_canEncode_9a6ad_8 : decode bJ1_canEncode_9a6ad 8 = .ok (.if_icmp .gt 7, 3) := by decide +kernel
theorem dJ1_canEncode_9a6ad_11 : decode bJ1_canEncode_9a6ad 11 = .ok (.iconst 1, 1) := by decide +kernel
theorem dJ1_canEncode_9a6ad_12 : decode bJ1_canEncode_9a6ad 12 = .ok (.goto 4, 3) := by decide +kernel
theorem dJ1_canEncode_9a6ad_15 : decode bJ1_canEncode_9a6ad 15 = .ok (.iconst 0, 1) := by decide +kernel
theorem dJ1_canEncode_9a6ad_16 : decode bJ1_canEncode_9a6ad 16 = .ok (.ireturn, 1) := by decide +kernel
set_option maxRecDepth 20000 in
set_option maxHeartbeats 4000000 in
theorem cJ1_canEncode_9a6ad {l : Launch} {k : Kx} {F : Nat} {a0 : Int32} {μ μ' : Mm} {r : Int32} (hk : kok k) (hf : fJ1_canEncode_9a6ad F a0 μ = some (r, μ')) : MM l k 0 yJ1_canEncode_9a6ad bJ1_canEncode_9a6ad 1 (some .boolean) [.int a0] μ (some (.int r)) μ' := by
  refine MM.of (lv := [(0, .int a0)]) (by decide +kernel) hk (Nat.le_of_ble_eq_true rfl) rfl (fun z hl hx => ?_)
  subst hl
  have hx : Ok z k bJ1_canEncode_9a6ad 1 "java/lang/StringLatin1" (some .boolean) 0 (0, 0) := hx
  unfold fJ1_canEncode_9a6ad at hf
  refine r_iloadn hx 0 rfl rfl dJ1_canEncode_9a6ad_0 ?_
  refine r_iflt (tgt := 15) hx rfl dJ1_canEncode_9a6ad_1 (fun q1 => ?_) (fun q1 => ?_)
  · have hf := (f_ite hf).1 q1
    refine r_iconst hx ci_0 dJ1_canEncode_9a6ad_15 ?_
    exact r_zret hx hf rfl dJ1_canEncode_9a6ad_16
  · have hf := (f_ite hf).2 q1
    refine r_iloadn hx 0 rfl rfl dJ1_canEncode_9a6ad_4 ?_
    refine r_sipush hx cs_255 dJ1_canEncode_9a6ad_5 ?_
    refine r_icgt (tgt := 15) hx rfl dJ1_canEncode_9a6ad_8 (fun q2 => ?_) (fun q2 => ?_)
    · have hf := (f_ite hf).1 q2
      refine r_iconst hx ci_0 dJ1_canEncode_9a6ad_15 ?_
      exact r_zret hx hf rfl dJ1_canEncode_9a6ad_16
    · have hf := (f_ite hf).2 q2
      refine r_iconst hx ci_1 dJ1_canEncode_9a6ad_11 ?_
      refine r_goto (tgt := 16) hx rfl dJ1_canEncode_9a6ad_12 ?_
      exact r_zret hx hf rfl dJ1_canEncode_9a6ad_16
theorem dJ1_indexOfChar_4cfef_0 : decode bJ1_indexOfChar_4cfef 0 = .ok (.iload_n 1, 1) := by decide +kernel
theorem dJ1_indexOfChar_4cfef_1 : decode bJ1_indexOfChar_4cfef 1 = .ok (.i2b, 1) := by decide +kernel
theorem dJ1_indexOfChar_4cfef_2 : decode bJ1_indexOfChar_4cfef 2 = .ok (.istore 4, 2) := by decide +kernel
theorem dJ1_indexOfChar_4cfef_4 : decode bJ1_indexOfChar_4cfef 4 = .ok (.iload_n 2, 1) := by decide +kernel
theorem dJ1_indexOfChar_4cfef_5 : decode bJ1_indexOfChar_4cfef 5 = .ok (.istore 5, 2) := by decide +kernel
theorem dJ1_indexOfChar_4cfef_7 : decode bJ1_indexOfChar_4cfef 7 = .ok (.iload 5, 2) := by decide +kernel
theorem dJ1_indexOfChar_4cfef_9 : decode bJ1_indexOfChar_4cfef 9 = .ok (.iload_n 3, 1) := by decide +kernel
theorem dJ1_indexOfChar_4cfef_10 : decode bJ1_indexOfChar_4cfef 10 = .ok (.if_icmp .ge 21, 3) := by decide +kernel
theorem dJ1_indexOfChar_4cfef_13 : decode bJ1_indexOfChar_4cfef 13 = .ok (.aload_n 0, 1) := by decide +kernel
theorem dJ1_indexOfChar_4cfef_14 : decode bJ1_indexOfChar_4cfef 14 = .ok (.iload 5, 2) := by decide +kernel
theorem dJ1_indexOfChar_4cfef_16 : decode bJ1_indexOfChar_4cfef 16 = .ok (.baload, 1) := by decide +kernel
theorem dJ1_indexOfChar_4cfef_17 : decode bJ1_indexOfChar_4cfef 17 = .ok (.iload 4, 2) := by decide +kernel
theorem dJ1_indexOfChar_4cfef_19 : decode bJ1_indexOfChar_4cfef 19 = .ok (.if_icmp .ne 6, 3) := by decide +kernel
theorem dJ1_indexOfChar_4cfef_22 : decode bJ1_indexOfChar_4cfef 22 = .ok (.iload 5, 2) := by decide +kernel
theorem dJ1_indexOfChar_4cfef_24 : decode bJ1_indexOfChar_4cfef 24 = .ok (.ireturn, 1) := by decide +kernel
theorem dJ1_indexOfChar_4cfef_25 : decode bJ1_indexOfChar_4cfef 25 = .ok (.iinc 5 1, 3) := by decide +kernel
theorem dJ1_indexOfChar_4cfef_28 : decode bJ1_indexOfChar_4cfef 28 = .ok (.goto (-21), 3) := by decide +kernel
theorem dJ1_indexOfChar_4cfef_31 : decode bJ1_indexOfChar_4cfef 31 = .ok (.iconst (-1), 1) := by decide +kernel
theorem dJ1_indexOfChar_4cfef_32 : decode bJ1_indexOfChar_4cfef 32 = .ok (.ireturn, 1) := by decide +kernel
set_option maxRecDepth 20000 in
set_option maxHeartbeats 4000000 in
theorem cJ1_indexOfChar_4cfef_w1 {l : Launch} {k : Kx} {F : Nat} {a1 : Int32} {a2 : Int32} {a3 : Int32} {μ μ' : Mm} {r : Int32} (hk : kok k) (hf : fJ1_indexOfChar_4cfef_w1 F a1 a2 a3 μ = some (r, μ')) : MM l k 0 yJ1_indexOfChar_4cfef bJ1_indexOfChar_4cfef 6 (some .int) [.ref (kSv k 1), .int a1, .int a2, .int a3] μ (some (.int r)) μ' := by
  refine MM.of (lv := [(0, .ref (kSv k 1)), (1, .int a1), (2, .int a2), (3, .int a3)]) (by decide +kernel) hk (Nat.le_of_ble_eq_true rfl) rfl (fun z hl hx => ?_)
  subst hl
  have hx : Ok z k bJ1_indexOfChar_4cfef 6 "java/lang/StringLatin1" (some .int) 0 (0, 0) := hx
  have L7 : ∀ (n : Nat) (v3 : Int32) (v4 : Int32) (v5 : Int32) (μ : Mm), fJ1_indexOfChar_4cfef_w1_L7 F n v3 v4 v5 μ = some (r, μ') → Gw z k 6 (k, (0, 0), (some .int), (some (.int r)), μ') (0, 0) 7 μ [(0, .ref (kSv k 1)), (3, .int v3), (4, .int v4), (5, .int v5)] [] := by
    intro  n
    induction n with
    | zero =>
      intro v3 v4 v5 μ hf
      exact f_no (show (none : Option (Int32 × Mm)) = _ from hf)
    | succ n ih =>
      intro v3 v4 v5 μ hf
      rw [fJ1_indexOfChar_4cfef_w1_L7] at hf
      refine r_iload hx 3 rfl dJ1_indexOfChar_4cfef_7 ?_
      refine r_iloadn hx 1 rfl rfl dJ1_indexOfChar_4cfef_9 ?_
      refine r_icge (tgt := 31) hx rfl dJ1_indexOfChar_4cfef_10 (fun q1 => ?_) (fun q1 => ?_)
      · have hf := (f_ite hf).1 q1
        refine r_iconst hx ci_m1 dJ1_indexOfChar_4cfef_31 ?_
        exact r_iret hx hf dJ1_indexOfChar_4cfef_32
      · have hf := (f_ite hf).2 q1
        refine r_aloadn hx 0 rfl rfl dJ1_indexOfChar_4cfef_13 ?_
        refine r_iload hx 3 rfl dJ1_indexOfChar_4cfef_14 ?_
        obtain ⟨b2, hf⟩ := f_chk hf
        refine r_svald (w := 1) (n := 9) hx (by decide) rfl b2 rfl dJ1_indexOfChar_4cfef_16 ?_
        refine r_iload hx 2 rfl dJ1_indexOfChar_4cfef_17 ?_
        refine r_icne (tgt := 25) hx rfl dJ1_indexOfChar_4cfef_19 (fun q3 => ?_) (fun q3 => ?_)
        · have hf := (f_ite hf).2 q3
          refine r_iinc (lv' := [(5, .int (v5 + 1)), (0, .ref (kSv k 1)), (3, .int v3), (4, .int v4)]) hx 3 rfl (congrArg (fun y => v5 + y) ci_1) (Nat.le_of_ble_eq_true rfl) rfl dJ1_indexOfChar_4cfef_25 ?_
          refine r_goto (tgt := 7) hx rfl dJ1_indexOfChar_4cfef_28 ?_
          refine r_sub [1, 2, 3, 0] rfl ?_
          exact ih v3 v4 (v5 + 1) μ hf
        · have hf := (f_ite hf).1 q3
          refine r_iload hx 3 rfl dJ1_indexOfChar_4cfef_22 ?_
          exact r_iret hx hf dJ1_indexOfChar_4cfef_24
  unfold fJ1_indexOfChar_4cfef_w1 at hf
  refine r_iloadn hx 1 rfl rfl dJ1_indexOfChar_4cfef_0 ?_
  refine r_i2b hx dJ1_indexOfChar_4cfef_1 ?_
  refine r_istore (lv' := [(4, .int a1.toInt8.toInt32), (0, .ref (kSv k 1)), (1, .int a1), (2, .int a2), (3, .int a3)]) hx (Nat.le_of_ble_eq_true rfl) rfl dJ1_indexOfChar_4cfef_2 ?_
  refine r_iloadn hx 3 rfl rfl dJ1_indexOfChar_4cfef_4 ?_
  refine r_istore (lv' := [(5, .int a2), (4, .int a1.toInt8.toInt32), (0, .ref (kSv k 1)), (1, .int a1), (2, .int a2), (3, .int a3)]) hx (Nat.le_of_ble_eq_true rfl) rfl dJ1_indexOfChar_4cfef_5 ?_
  refine r_sub [2, 5, 1, 0] rfl ?_
  exact L7 F a3 a1.toInt8.toInt32 a2 μ hf
theorem dJ1_indexOf_4cfef_0 : decode bJ1_indexOf_4cfef 0 = .ok (.iload_n 1, 1) := by decide +kernel
theorem dJ1_indexOf_4cfef_1 : decode bJ1_indexOf_4cfef 1 = .ok (.invokestatic 88, 3) := by decide +kernel
theorem dJ1_indexOf_4cfef_4 : decode bJ1_indexOf_4cfef 4 = .ok (.ifCond .ne 5, 3) := by decide +kernel
theorem dJ1_indexOf_4cfef_7 : decode bJ1_indexOf_4cfef 7 = .ok (.iconst (-1), 1) := by decide +kernel
theorem dJ1_indexOf_4cfef_8 : decode bJ1_indexOf_4cfef 8 = .ok (.ireturn, 1) := by decide +kernel
theorem dJ1_indexOf_4cfef_9 : decode bJ1_indexOf_4cfef 9 = .ok (.iload_n 2, 1) := by decide +kernel
theorem dJ1_indexOf_4cfef_10 : decode bJ1_indexOf_4cfef 10 = .ok (.iconst 0, 1) := by decide +kernel
theorem dJ1_indexOf_4cfef_11 : decode bJ1_indexOf_4cfef 11 = .ok (.invokestatic 92, 3) := by decide +kernel
theorem dJ1_indexOf_4cfef_14 : decode bJ1_indexOf_4cfef 14 = .ok (.istore_n 2, 1) := by decide +kernel
theorem dJ1_indexOf_4cfef_15 : decode bJ1_indexOf_4cfef 15 = .ok (.iload_n 3, 1) := by decide +kernel
theorem dJ1_indexOf_4cfef_16 : decode bJ1_indexOf_4cfef 16 = .ok (.aload_n 0, 1) := by decide +kernel
theorem dJ1_indexOf_4cfef_17 : decode bJ1_indexOf_4cfef 17 = .ok (.arraylength, 1) := by decide +kernel
theorem dJ1_indexOf_4cfef_18 : decode bJ1_indexOf_4cfef 18 = .ok (.invokestatic 38, 3) := by decide +kernel
theorem dJ1_indexOf_4cfef_21 : decode bJ1_indexOf_4cfef 21 = .ok (.istore_n 3, 1) := by decide +kernel
theorem dJ1_indexOf_4cfef_22 : decode bJ1_indexOf_4cfef 22 = .ok (.iload_n 2, 1) := by decide +kernel
theorem dJ1_indexOf_4cfef_23 : decode bJ1_indexOf_4cfef 23 = .ok (.iload_n 3, 1) := by decide +kernel
theorem dJ1_indexOf_4cfef_24 : decode bJ1_indexOf_4cfef 24 = .ok (.if_icmp .lt 5, 3) := by decide +kernel
theorem dJ1_indexOf_4cfef_27 : decode bJ1_indexOf_4cfef 27 = .ok (.iconst (-1), 1) := by decide +kernel
theorem dJ1_indexOf_4cfef_28 : decode bJ1_indexOf_4cfef 28 = .ok (.ireturn, 1) := by decide +kernel
theorem dJ1_indexOf_4cfef_29 : decode bJ1_indexOf_4cfef 29 = .ok (.aload_n 0, 1) := by decide +kernel
theorem dJ1_indexOf_4cfef_30 : decode bJ1_indexOf_4cfef 30 = .ok (.iload_n 1, 1) := by decide +kernel
theorem dJ1_indexOf_4cfef_31 : decode bJ1_indexOf_4cfef 31 = .ok (.iload_n 2, 1) := by decide +kernel
theorem dJ1_indexOf_4cfef_32 : decode bJ1_indexOf_4cfef 32 = .ok (.iload_n 3, 1) := by decide +kernel
theorem dJ1_indexOf_4cfef_33 : decode bJ1_indexOf_4cfef 33 = .ok (.invokestatic 95, 3) := by decide +kernel
theorem dJ1_indexOf_4cfef_36 : decode bJ1_indexOf_4cfef 36 = .ok (.ireturn, 1) := by decide +kernel
set_option maxRecDepth 20000 in
set_option maxHeartbeats 4000000 in
theorem cJ1_indexOf_4cfef_w1 {l : Launch} {k : Kx} {F : Nat} {a1 : Int32} {a2 : Int32} {a3 : Int32} {μ μ' : Mm} {r : Int32} (hk : kok k) (hf : fJ1_indexOf_4cfef_w1 F a1 a2 a3 μ = some (r, μ')) : MM l k 1 yJ1_indexOf_4cfef bJ1_indexOf_4cfef 4 (some .int) [.ref (kSv k 1), .int a1, .int a2, .int a3] μ (some (.int r)) μ' := by
  refine MM.of (lv := [(0, .ref (kSv k 1)), (1, .int a1), (2, .int a2), (3, .int a3)]) (by decide +kernel) hk (Nat.le_of_ble_eq_true rfl) rfl (fun z hl hx => ?_)
  subst hl
  have hx : Ok z k bJ1_indexOf_4cfef 4 "java/lang/StringLatin1" (some .int) 1 (0, 0) := hx
  unfold fJ1_indexOf_4cfef_w1 at hf
  refine r_iloadn hx 1 rfl rfl dJ1_indexOf_4cfef_0 ?_
  obtain ⟨r3, μ2, c1, hf⟩ := f_bd2 hf
  refine r_callS hx (As := [.int a1]) (rest := []) (st1 := [.int r3]) MK_J1_canEncode_9a6ad ws_J1_canEncode_9a6ad wm_J1_88 ⟨Nat.le_refl _, Nat.le_refl _⟩ (cJ1_canEncode_9a6ad hk c1) (Nat.le_of_ble_eq_true rfl) rfl rfl (Nat.le_of_ble_eq_true rfl) rfl dJ1_indexOf_4cfef_1 (fun hb4 => ?_)
  refine r_ifne (tgt := 9) hx rfl dJ1_indexOf_4cfef_4 (fun q5 => ?_) (fun q5 => ?_)
  · have hf := (f_ite hf).2 q5
    refine r_iloadn hx 2 rfl rfl dJ1_indexOf_4cfef_9 ?_
    refine r_iconst hx ci_0 dJ1_indexOf_4cfef_10 ?_
    refine r_mmax hx wm_J1_92 xws_max xwm xwk_max ⟨Nat.le_refl _, Nat.le_refl _⟩ (Nat.le_of_ble_eq_true rfl) (Nat.le_of_ble_eq_true rfl) dJ1_indexOf_4cfef_11 ?_
    refine r_istoren (lv' := [(2, .int (mx a2 0)), (0, .ref (kSv k 1)), (1, .int a1), (3, .int a3)]) hx rfl (Nat.le_of_ble_eq_true rfl) rfl dJ1_indexOf_4cfef_14 ?_
    refine r_iloadn hx 3 rfl rfl dJ1_indexOf_4cfef_15 ?_
    refine r_aloadn hx 1 rfl rfl dJ1_indexOf_4cfef_16 ?_
    refine r_svlen (v := 9) (w := 1) hx (by decide) (by decide) dJ1_indexOf_4cfef_17 ?_
    refine r_mmin hx wm_J1_38 xws_min xwm xwk_min ⟨Nat.le_refl _, Nat.le_refl _⟩ (Nat.le_of_ble_eq_true rfl) (Nat.le_of_ble_eq_true rfl) dJ1_indexOf_4cfef_18 ?_
    refine r_istoren (lv' := [(3, .int (mn a3 9)), (2, .int (mx a2 0)), (0, .ref (kSv k 1)), (1, .int a1)]) hx rfl (Nat.le_of_ble_eq_true rfl) rfl dJ1_indexOf_4cfef_21 ?_
    refine r_iloadn hx 1 rfl rfl dJ1_indexOf_4cfef_22 ?_
    refine r_iloadn hx 0 rfl rfl dJ1_indexOf_4cfef_23 ?_
    refine r_iclt (tgt := 29) hx rfl dJ1_indexOf_4cfef_24 (fun q6 => ?_) (fun q6 => ?_)
    · have hf := (f_ite hf).1 q6
      refine r_aloadn hx 2 rfl rfl dJ1_indexOf_4cfef_29 ?_
      refine r_iloadn hx 3 rfl rfl dJ1_indexOf_4cfef_30 ?_
      refine r_iloadn hx 1 rfl rfl dJ1_indexOf_4cfef_31 ?_
      refine r_iloadn hx 0 rfl rfl dJ1_indexOf_4cfef_32 ?_
      obtain ⟨r9, μ8, c7, hf⟩ := f_bd2 hf
      refine r_callS hx (As := [.ref (kSv k 1), .int a1, .int (mx a2 0), .int (mn a3 9)]) (rest := []) (st1 := [.int r9]) MK_J1_indexOfChar_4cfef ws_J1_indexOfChar_4cfef wm_J1_95 ⟨Nat.le_refl _, Nat.le_refl _⟩ (cJ1_indexOfChar_4cfef_w1 hk c7) (Nat.le_of_ble_eq_true rfl) rfl rfl (Nat.le_of_ble_eq_true rfl) rfl dJ1_indexOf_4cfef_33 (fun hb10 => ?_)
      exact r_iret hx hf dJ1_indexOf_4cfef_36
    · have hf := (f_ite hf).2 q6
      refine r_iconst hx ci_m1 dJ1_indexOf_4cfef_27 ?_
      exact r_iret hx hf dJ1_indexOf_4cfef_28
  · have hf := (f_ite hf).1 q5
    refine r_iconst hx ci_m1 dJ1_indexOf_4cfef_7 ?_
    exact r_iret hx hf dJ1_indexOf_4cfef_8
theorem dJ0_indexOf_7cf53_0 : decode bJ0_indexOf_7cf53 0 = .ok (.aload_n 0, 1) := by decide +kernel
theorem dJ0_indexOf_7cf53_1 : decode bJ0_indexOf_7cf53 1 = .ok (.invokevirtual 492, 3) := by decide +kernel
theorem dJ0_indexOf_7cf53_4 : decode bJ0_indexOf_7cf53 4 = .ok (.ifCond .eq 19, 3) := by decide +kernel
theorem dJ0_indexOf_7cf53_7 : decode bJ0_indexOf_7cf53 7 = .ok (.aload_n 0, 1) := by decide +kernel
theorem dJ0_indexOf_7cf53_8 : decode bJ0_indexOf_7cf53 8 = .ok (.getfield 9, 3) := by decide +kernel
theorem dJ0_indexOf_7cf53_11 : decode bJ0_indexOf_7cf53 11 = .ok (.iload_n 1, 1) := by decide +kernel
theorem dJ0_indexOf_7cf53_12 : decode bJ0_indexOf_7cf53 12 = .ok (.iload_n 2, 1) := by decide +kernel
theorem dJ0_indexOf_7cf53_13 : decode bJ0_indexOf_7cf53 13 = .ok (.aload_n 0, 1) := by decide +kernel
theorem dJ0_indexOf_7cf53_14 : decode bJ0_indexOf_7cf53 14 = .ok (.invokevirtual 505, 3) := by decide +kernel
theorem dJ0_indexOf_7cf53_17 : decode bJ0_indexOf_7cf53 17 = .ok (.invokestatic 637, 3) := by decide +kernel
theorem dJ0_indexOf_7cf53_20 : decode bJ0_indexOf_7cf53 20 = .ok (.goto 16, 3) := by decide +kernel
theorem dJ0_indexOf_7cf53_23 : decode bJ0_indexOf_7cf53 23 = .ok (.aload_n 0, 1) := by decide +kernel
theorem dJ0_indexOf_7cf53_24 : decode bJ0_indexOf_7cf53 24 = .ok (.getfield 9, 3) := by decide +kernel
theorem dJ0_indexOf_7cf53_27 : decode bJ0_indexOf_7cf53 27 = .ok (.iload_n 1, 1) := by decide +kernel
theorem dJ0_indexOf_7cf53_28 : decode bJ0_indexOf_7cf53 28 = .ok (.iload_n 2, 1) := by decide +kernel
theorem dJ0_indexOf_7cf53_29 : decode bJ0_indexOf_7cf53 29 = .ok (.aload_n 0, 1) := by decide +kernel
theorem dJ0_indexOf_7cf53_30 : decode bJ0_indexOf_7cf53 30 = .ok (.invokevirtual 505, 3) := by decide +kernel
theorem dJ0_indexOf_7cf53_36 : decode bJ0_indexOf_7cf53 36 = .ok (.ireturn, 1) := by decide +kernel
set_option maxRecDepth 20000 in
set_option maxHeartbeats 4000000 in
theorem cJ0_indexOf_7cf53_w1 {l : Launch} {k : Kx} {F : Nat} {a1 : Int32} {a2 : Int32} {μ μ' : Mm} {r : Int32} (hk : kok k) (hf : fJ0_indexOf_7cf53_w1 F a1 a2 μ = some (r, μ')) : MM l k 2 yJ0_indexOf_7cf53 bJ0_indexOf_7cf53 3 (some .int) [.ref (kSa k 1), .int a1, .int a2] μ (some (.int r)) μ' := by
  refine MM.of (lv := [(0, .ref (kSa k 1)), (1, .int a1), (2, .int a2)]) (by decide +kernel) hk (Nat.le_of_ble_eq_true rfl) rfl (fun z hl hx => ?_)
  subst hl
  have hx : Ok z k bJ0_indexOf_7cf53 3 "java/lang/String" (some .int) 2 (0, 0) := hx
  unfold fJ0_indexOf_7cf53_w1 at hf
  refine r_aloadn hx 0 rfl rfl dJ0_indexOf_7cf53_0 ?_
  obtain ⟨r3, μ2, c1, hf⟩ := f_bd2 hf
  refine r_callVS hx (As := []) (rest := []) (st1 := [.int r3]) (w := 1) MK_J0_isLatin1_aae02 rfl wi_J0_isLatin1_aae02 we_J0_isLatin1_aae02 wm_J0_492 ⟨Nat.le_refl _, Nat.le_refl _⟩ (cJ0_isLatin1_aae02_w1 hk c1) (by decide) (Nat.le_of_ble_eq_true rfl) rfl rfl (Nat.le_of_ble_eq_true rfl) rfl dJ0_indexOf_7cf53_1 (fun hb4 => ?_)
  refine r_ifeq (tgt := 23) hx rfl dJ0_indexOf_7cf53_4 (fun q5 => ?_) (fun q5 => ?_)
  · have hf := (f_ite hf).1 q5
    refine r_aloadn hx 0 rfl rfl dJ0_indexOf_7cf53_23 ?_
    refine r_sval (w := 1) hx (by decide) wf_J0_9 dJ0_indexOf_7cf53_24 ?_
    refine r_iloadn hx 1 rfl rfl dJ0_indexOf_7cf53_27 ?_
    refine r_iloadn hx 2 rfl rfl dJ0_indexOf_7cf53_28 ?_
    refine r_aloadn hx 0 rfl rfl dJ0_indexOf_7cf53_29 ?_
    obtain ⟨r8, μ7, c6, hf⟩ := f_bd2 hf
    refine r_callVS hx (As := []) (rest := [.int a2, .int a1, .ref (kSv k 1)]) (st1 := [.int r8, .int a2, .int a1, .ref (kSv k 1)]) (w := 1) MK_J0_length_8abf5 rfl wi_J0_length_8abf5 we_J0_length_8abf5 wm_J0_505 ⟨Nat.le_refl _, Nat.le_refl _⟩ (cJ0_length_8abf5_w1 hk c6) (by decide) (Nat.le_of_ble_eq_true rfl) rfl rfl (Nat.le_of_ble_eq_true rfl) rfl dJ0_indexOf_7cf53_30 (fun hb9 => ?_)
    exact f_no hf
  · have hf := (f_ite hf).2 q5
    refine r_aloadn hx 0 rfl rfl dJ0_indexOf_7cf53_7 ?_
    refine r_sval (w := 1) hx (by decide) wf_J0_9 dJ0_indexOf_7cf53_8 ?_
    refine r_iloadn hx 1 rfl rfl dJ0_indexOf_7cf53_11 ?_
    refine r_iloadn hx 2 rfl rfl dJ0_indexOf_7cf53_12 ?_
    refine r_aloadn hx 0 rfl rfl dJ0_indexOf_7cf53_13 ?_
    obtain ⟨r12, μ11, c10, hf⟩ := f_bd2 hf
    refine r_callVS hx (As := []) (rest := [.int a2, .int a1, .ref (kSv k 1)]) (st1 := [.int r12, .int a2, .int a1, .ref (kSv k 1)]) (w := 1) MK_J0_length_8abf5 rfl wi_J0_length_8abf5 we_J0_length_8abf5 wm_J0_505 ⟨Nat.le_refl _, Nat.le_refl _⟩ (cJ0_length_8abf5_w1 hk c10) (by decide) (Nat.le_of_ble_eq_true rfl) rfl rfl (Nat.le_of_ble_eq_true rfl) rfl dJ0_indexOf_7cf53_14 (fun hb13 => ?_)
    obtain ⟨r16, μ15, c14, hf⟩ := f_bd2 hf
    refine r_callS hx (As := [.ref (kSv k 1), .int a1, .int a2, .int r12]) (rest := []) (st1 := [.int r16]) MK_J1_indexOf_4cfef ws_J1_indexOf_4cfef wm_J0_637 ⟨Nat.le_refl _, Nat.le_refl _⟩ (cJ1_indexOf_4cfef_w1 hk c14) (Nat.le_of_ble_eq_true rfl) rfl rfl (Nat.le_of_ble_eq_true rfl) rfl dJ0_indexOf_7cf53_17 (fun hb17 => ?_)
    refine r_goto (tgt := 36) hx rfl dJ0_indexOf_7cf53_20 ?_
    exact r_iret hx hf dJ0_indexOf_7cf53_36
theorem dJ0_indexOf_0f7a4_0 : decode bJ0_indexOf_0f7a4 0 = .ok (.aload_n 0, 1) := by decide +kernel
theorem dJ0_indexOf_0f7a4_1 : decode bJ0_indexOf_0f7a4 1 = .ok (.iload_n 1, 1) := by decide +kernel
theorem dJ0_indexOf_0f7a4_2 : decode bJ0_indexOf_0f7a4 2 = .ok (.iconst 0, 1) := by decide +kernel
theorem dJ0_indexOf_0f7a4_3 : decode bJ0_indexOf_0f7a4 3 = .ok (.invokevirtual 633, 3) := by decide +kernel
theorem dJ0_indexOf_0f7a4_6 : decode bJ0_indexOf_0f7a4 6 = .ok (.ireturn, 1) := by decide +kernel
set_option maxRecDepth 20000 in
set_option maxHeartbeats 4000000 in
theorem cJ0_indexOf_0f7a4_w1 {l : Launch} {k : Kx} {F : Nat} {a1 : Int32} {μ μ' : Mm} {r : Int32} (hk : kok k) (hf : fJ0_indexOf_0f7a4_w1 F a1 μ = some (r, μ')) : MM l k 3 yJ0_indexOf_0f7a4 bJ0_indexOf_0f7a4 2 (some .int) [.ref (kSa k 1), .int a1] μ (some (.int r)) μ' := by
  refine MM.of (lv := [(0, .ref (kSa k 1)), (1, .int a1)]) (by decide +kernel) hk (Nat.le_of_ble_eq_true rfl) rfl (fun z hl hx => ?_)
  subst hl
  have hx : Ok z k bJ0_indexOf_0f7a4 2 "java/lang/String" (some .int) 3 (0, 0) := hx
  unfold fJ0_indexOf_0f7a4_w1 at hf
  refine r_aloadn hx 0 rfl rfl dJ0_indexOf_0f7a4_0 ?_
  refine r_iloadn hx 1 rfl rfl dJ0_indexOf_0f7a4_1 ?_
  refine r_iconst hx ci_0 dJ0_indexOf_0f7a4_2 ?_
  obtain ⟨r3, μ2, c1, hf⟩ := f_bd2 hf
  refine r_callVS hx (As := [.int a1, .int 0]) (rest := []) (st1 := [.int r3]) (w := 1) MK_J0_indexOf_7cf53 rfl wi_J0_indexOf_7cf53 we_J0_indexOf_7cf53 wm_J0_633 ⟨Nat.le_refl _, Nat.le_refl _⟩ (cJ0_indexOf_7cf53_w1 hk c1) (by decide) (Nat.le_of_ble_eq_true rfl) rfl rfl (Nat.le_of_ble_eq_true rfl) rfl dJ0_indexOf_0f7a4_3 (fun hb4 => ?_)
  exact r_iret hx hf dJ0_indexOf_0f7a4_6
theorem dX7_scanToken_0 : decode bX7_scanToken 0 = .ok (.iload_n 2, 1) := by decide +kernel
theorem dX7_scanToken_1 : decode bX7_scanToken 1 = .ok (.aload_n 0, 1) := by decide +kernel
theorem dX7_scanToken_2 : decode bX7_scanToken 2 = .ok (.getfield 27, 3) := by decide +kernel
theorem dX7_scanToken_5 : decode bX7_scanToken 5 = .ok (.if_icmp .lt 13, 3) := by decide +kernel
theorem dX7_scanToken_8 : decode bX7_scanToken 8 = .ok (.aload_n 0, 1) := by decide +kernel
theorem dX7_scanToken_9 : decode bX7_scanToken 9 = .ok (.getfield 13, 3) := by decide +kernel
theorem dX7_scanToken_12 : decode bX7_scanToken 12 = .ok (.iload_n 1, 1) := by decide +kernel
theorem dX7_scanToken_13 : decode bX7_scanToken 13 = .ok (.bipush 33, 2) := by decide +kernel
theorem dX7_scanToken_15 : decode bX7_scanToken 15 = .ok (.iastore, 1) := by decide +kernel
theorem dX7_scanToken_16 : decode bX7_scanToken 16 = .ok (.iload_n 2, 1) := by decide +kernel
theorem dX7_scanToken_17 : decode bX7_scanToken 17 = .ok (.ireturn, 1) := by decide +kernel
theorem dX7_scanToken_18 : decode bX7_scanToken 18 = .ok (.aload_n 0, 1) := by decide +kernel
theorem dX7_scanToken_19 : decode bX7_scanToken 19 = .ok (.iload_n 2, 1) := by decide +kernel
theorem dX7_scanToken_20 : decode bX7_scanToken 20 = .ok (.invokevirtual 63, 3) := by decide +kernel
theorem dX7_scanToken_23 : decode bX7_scanToken 23 = .ok (.istore_n 3, 1) := by decide +kernel
theorem dX7_scanToken_24 : decode bX7_scanToken 24 = .ok (.iload_n 3, 1) := by decide +kernel
theorem dX7_scanToken_25 : decode bX7_scanToken 25 = .ok (.invokestatic 69, 3) := by decide +kernel
theorem dX7_scanToken_28 : decode bX7_scanToken 28 = .ok (.ifCond .eq 10, 3) := by decide +kernel
theorem dX7_scanToken_31 : decode bX7_scanToken 31 = .ok (.aload_n 0, 1) := by decide +kernel
theorem dX7_scanToken_32 : decode bX7_scanToken 32 = .ok (.iload_n 1, 1) := by decide +kernel
theorem dX7_scanToken_33 : decode bX7_scanToken 33 = .ok (.iload_n 2, 1) := by decide +kernel
theorem dX7_scanToken_34 : decode bX7_scanToken 34 = .ok (.invokevirtual 72, 3) := by decide +kernel
theorem dX7_scanToken_37 : decode bX7_scanToken 37 = .ok (.ireturn, 1) := by decide +kernel
theorem dX7_scanToken_38 : decode bX7_scanToken 38 = .ok (.iload_n 3, 1) := by decide +kernel
theorem dX7_scanToken_39 : decode bX7_scanToken 39 = .ok (.invokestatic 75, 3) := by decide +kernel
theorem dX7_scanToken_42 : decode bX7_scanToken 42 = .ok (.ifCond .eq 10, 3) := by decide +kernel
theorem dX7_scanToken_45 : decode bX7_scanToken 45 = .ok (.aload_n 0, 1) := by decide +kernel
theorem dX7_scanToken_46 : decode bX7_scanToken 46 = .ok (.iload_n 1, 1) := by decide +kernel
theorem dX7_scanToken_47 : decode bX7_scanToken 47 = .ok (.iload_n 2, 1) := by decide +kernel
theorem dX7_scanToken_48 : decode bX7_scanToken 48 = .ok (.invokevirtual 78, 3) := by decide +kernel
theorem dX7_scanToken_51 : decode bX7_scanToken 51 = .ok (.ireturn, 1) := by decide +kernel
theorem dX7_scanToken_52 : decode bX7_scanToken 52 = .ok (.iload_n 3, 1) := by decide +kernel
theorem dX7_scanToken_53 : decode bX7_scanToken 53 = .ok (.ifCond .le 13, 3) := by decide +kernel
theorem dX7_scanToken_56 : decode bX7_scanToken 56 = .ok (.ldc 81, 2) := by decide +kernel
theorem dX7_scanToken_58 : decode bX7_scanToken 58 = .ok (.iload_n 3, 1) := by decide +kernel
theorem dX7_scanToken_59 : decode bX7_scanToken 59 = .ok (.i2c, 1) := by decide +kernel
theorem dX7_scanToken_60 : decode bX7_scanToken 60 = .ok (.invokevirtual 83, 3) := by decide +kernel
theorem dX7_scanToken_63 : decode bX7_scanToken 63 = .ok (.goto 4, 3) := by decide +kernel
theorem dX7_scanToken_66 : decode bX7_scanToken 66 = .ok (.iconst (-1), 1) := by decide +kernel
theorem dX7_scanToken_67 : decode bX7_scanToken 67 = .ok (.istore 4, 2) := by decide +kernel
theorem dX7_scanToken_69 : decode bX7_scanToken 69 = .ok (.aload_n 0, 1) := by decide +kernel
theorem dX7_scanToken_70 : decode bX7_scanToken 70 = .ok (.getfield 13, 3) := by decide +kernel
theorem dX7_scanToken_73 : decode bX7_scanToken 73 = .ok (.iload_n 1, 1) := by decide +kernel
theorem dX7_scanToken_74 : decode bX7_scanToken 74 = .ok (.iload 4, 2) := by decide +kernel
theorem dX7_scanToken_76 : decode bX7_scanToken 76 = .ok (.ifCond .ge 8, 3) := by decide +kernel
theorem dX7_scanToken_79 : decode bX7_scanToken 79 = .ok (.bipush 34, 2) := by decide +kernel
theorem dX7_scanToken_81 : decode bX7_scanToken 81 = .ok (.goto 8, 3) := by decide +kernel
theorem dX7_scanToken_84 : decode bX7_scanToken 84 = .ok (.bipush 24, 2) := by decide +kernel
theorem dX7_scanToken_86 : decode bX7_scanToken 86 = .ok (.iload 4, 2) := by decide +kernel
theorem dX7_scanToken_88 : decode bX7_scanToken 88 = .ok (.iadd, 1) := by decide +kernel
theorem dX7_scanToken_89 : decode bX7_scanToken 89 = .ok (.iastore, 1) := by decide +kernel
theorem dX7_scanToken_90 : decode bX7_scanToken 90 = .ok (.iload_n 2, 1) := by decide +kernel
theorem dX7_scanToken_91 : decode bX7_scanToken 91 = .ok (.iconst 1, 1) := by decide +kernel
theorem dX7_scanToken_92 : decode bX7_scanToken 92 = .ok (.iadd, 1) := by decide +kernel
theorem dX7_scanToken_93 : decode bX7_scanToken 93 = .ok (.ireturn, 1) := by decide +kernel
set_option maxRecDepth 20000 in
set_option maxHeartbeats 4000000 in
theorem cX7_scanToken {l : Launch} {k : Kx} {F : Nat} {a1 : Int32} {a2 : Int32} {μ μ' : Mm} {r : Int32} (hk : kok k) (e_this : kex k 7 0) (hf : fX7_scanToken F a1 a2 μ = some (r, μ')) : MM l k 6 yX7_scanToken bX7_scanToken 5 (some .int) [.ref (kad k 7 0), .int a1, .int a2] μ (some (.int r)) μ' := by
  refine MM.of (lv := [(0, .ref (kad k 7 0)), (1, .int a1), (2, .int a2)]) (plainFor_of_name (by decide)) hk (Nat.le_of_ble_eq_true rfl) rfl (fun z hl hx => ?_)
  subst hl
  have hx : Ok z k bX7_scanToken 5 "RopeDance$Tape" (some .int) 6 (0, 0) := hx
  have L89 : ∀ (v2 : Int32) (s1 : Int32) (s2 : Int32) (μ : Mm) (e_s0 : kex k 30 0), fX7_scanToken_L89 F v2 s1 s2 μ = some (r, μ') → Gw z k 5 (k, (0, 0), (some .int), (some (.int r)), μ') (0, 0) 89 μ [(2, .int v2)] [.int s2, .int s1, .ref (kad k 30 0)] := by
    intro  v2 s1 s2 μ e_s0 hf
    unfold fX7_scanToken_L89 at hf
    obtain ⟨b19, hf⟩ := f_chk hf
    refine r_iast hx (by decide) rfl e_s0 b19 rfl dX7_scanToken_89 ?_
    refine r_iloadn hx 0 rfl rfl dX7_scanToken_90 ?_
    refine r_iconst hx ci_1 dX7_scanToken_91 ?_
    refine r_iadd hx dX7_scanToken_92 ?_
    exact r_iret hx hf dX7_scanToken_93
  have L67 : ∀ (v1 : Int32) (v2 : Int32) (s0 : Int32) (μ : Mm) (e_v0 : kex k 7 0), fX7_scanToken_L67 F v1 v2 s0 μ = some (r, μ') → Gw z k 5 (k, (0, 0), (some .int), (some (.int r)), μ') (0, 0) 67 μ [(0, .ref (kad k 7 0)), (1, .int v1), (2, .int v2)] [.int s0] := by
    intro  v1 v2 s0 μ e_v0 hf
    unfold fX7_scanToken_L67 at hf
    refine r_istore (lv' := [(4, .int s0), (0, .ref (kad k 7 0)), (1, .int v1), (2, .int v2)]) hx (Nat.le_of_ble_eq_true rfl) rfl dX7_scanToken_67 ?_
    refine r_aloadn hx 1 rfl rfl dX7_scanToken_69 ?_
    refine r_getR hx (c' := 30) (i' := 0) FK7_7 e_v0 rfl wf_X7_13 dX7_scanToken_70 (fun e17 => ?_)
    refine r_iloadn hx 2 rfl rfl dX7_scanToken_73 ?_
    refine r_iload hx 0 rfl dX7_scanToken_74 ?_
    refine r_ifge (tgt := 84) hx rfl dX7_scanToken_76 (fun q18 => ?_) (fun q18 => ?_)
    · have hf := (f_ite hf).1 q18
      refine r_bipush hx cb_24 dX7_scanToken_84 ?_
      refine r_iload hx 0 rfl dX7_scanToken_86 ?_
      refine r_iadd hx dX7_scanToken_88 ?_
      refine r_sub [3] rfl ?_
      exact L89  v2 v1 (24 + s0) μ e17 hf
    · have hf := (f_ite hf).2 q18
      refine r_bipush hx cb_34 dX7_scanToken_79 ?_
      refine r_goto (tgt := 89) hx rfl dX7_scanToken_81 ?_
      refine r_sub [3] rfl ?_
      exact L89  v2 v1 34 μ e17 hf
  unfold fX7_scanToken at hf
  refine r_iloadn hx 2 rfl rfl dX7_scanToken_0 ?_
  refine r_aloadn hx 0 rfl rfl dX7_scanToken_1 ?_
  refine r_getI hx FK7_0 e_this wf_X7_27 dX7_scanToken_2 ?_
  refine r_iclt (tgt := 18) hx rfl dX7_scanToken_5 (fun q1 => ?_) (fun q1 => ?_)
  · have hf := (f_ite hf).1 q1
    refine r_aloadn hx 0 rfl rfl dX7_scanToken_18 ?_
    refine r_iloadn hx 2 rfl rfl dX7_scanToken_19 ?_
    obtain ⟨r4, μ3, c2, hf⟩ := f_bd2 hf
    refine r_callV hx (As := [.int a2]) (rest := []) (st1 := [.int r4]) (c := 7) (i := 0) (TT := T7) (N := 11) MK_X7_byteAt rfl wi_X7_byteAt we_X7_byteAt wm_X7_63 ⟨Nat.le_refl _, Nat.le_refl _⟩ (cX7_byteAt hk e_this c2) e_this (Nat.le_of_ble_eq_true rfl) rfl rfl (Nat.le_of_ble_eq_true rfl) rfl dX7_scanToken_20 (fun hb5 => ?_)
    refine r_istoren (lv' := [(3, .int r4), (0, .ref (kad k 7 0)), (1, .int a1), (2, .int a2)]) hx rfl (Nat.le_of_ble_eq_true rfl) rfl dX7_scanToken_23 ?_
    refine r_iloadn hx 0 rfl rfl dX7_scanToken_24 ?_
    obtain ⟨r8, μ7, c6, hf⟩ := f_bd2 hf
    refine r_callS hx (As := [.int r4]) (rest := []) (st1 := [.int r8]) MK_X7_isLetter ws_X7_isLetter wm_X7_69 ⟨Nat.le_refl _, Nat.le_refl _⟩ (cX7_isLetter hk c6) (Nat.le_of_ble_eq_true rfl) rfl rfl (Nat.le_of_ble_eq_true rfl) rfl dX7_scanToken_25 (fun hb9 => ?_)
    refine r_ifeq (tgt := 38) hx rfl dX7_scanToken_28 (fun q10 => ?_) (fun q10 => ?_)
    · have hf := (f_ite hf).1 q10
      refine r_iloadn hx 0 rfl rfl dX7_scanToken_38 ?_
      obtain ⟨r13, μ12, c11, hf⟩ := f_bd2 hf
      refine r_callS hx (As := [.int r4]) (rest := []) (st1 := [.int r13]) MK_X7_isDigit ws_X7_isDigit wm_X7_75 ⟨Nat.le_refl _, Nat.le_refl _⟩ (cX7_isDigit hk c11) (Nat.le_of_ble_eq_true rfl) rfl rfl (Nat.le_of_ble_eq_true rfl) rfl dX7_scanToken_39 (fun hb14 => ?_)
      refine r_ifeq (tgt := 52) hx rfl dX7_scanToken_42 (fun q15 => ?_) (fun q15 => ?_)
      · have hf := (f_ite hf).1 q15
        refine r_iloadn hx 0 rfl rfl dX7_scanToken_52 ?_
        refine r_ifle (tgt := 66) hx rfl dX7_scanToken_53 (fun q16 => ?_) (fun q16 => ?_)
        · have hf := (f_ite hf).1 q16
          refine r_iconst hx ci_m1 dX7_scanToken_66 ?_
          refine r_sub [1, 2, 3] rfl ?_
          exact L67  a1 a2 (-1) μ12 e_this hf
        · have hf := (f_ite hf).2 q16
          refine r_ldcs1 hx dX7_scanToken_56 ?_
          refine r_iloadn hx 0 rfl rfl dX7_scanToken_58 ?_
          refine r_i2c hx dX7_scanToken_59 ?_
          obtain ⟨r22, μ21, c20, hf⟩ := f_bd2 hf
          refine r_callVS hx (As := [.int (i2c r4)]) (rest := []) (st1 := [.int r22]) (w := 1) MK_J0_indexOf_0f7a4 rfl wi_J0_indexOf_0f7a4 we_J0_indexOf_0f7a4 wm_X7_83 ⟨Nat.le_refl _, Nat.le_refl _⟩ (cJ0_indexOf_0f7a4_w1 hk c20) (by decide) (Nat.le_of_ble_eq_true rfl) rfl rfl (Nat.le_of_ble_eq_true rfl) rfl dX7_scanToken_60 (fun hb23 => ?_)
          refine r_goto (tgt := 67) hx rfl dX7_scanToken_63 ?_
          refine r_sub [1, 2, 3] rfl ?_
          exact L67  a1 a2 r22 μ21 e_this hf
      · have hf := (f_ite hf).2 q15
        refine r_aloadn hx 1 rfl rfl dX7_scanToken_45 ?_
        refine r_iloadn hx 2 rfl rfl dX7_scanToken_46 ?_
        refine r_iloadn hx 3 rfl rfl dX7_scanToken_47 ?_
        obtain ⟨r26, μ25, c24, hf⟩ := f_bd2 hf
        refine r_callV hx (As := [.int a1, .int a2]) (rest := []) (st1 := [.int r26]) (c := 7) (i := 0) (TT := T7) (N := 11) MK_X7_scanInt rfl wi_X7_scanInt we_X7_scanInt wm_X7_78 ⟨Nat.le_refl _, Nat.le_refl _⟩ (cX7_scanInt hk e_this c24) e_this (Nat.le_of_ble_eq_true rfl) rfl rfl (Nat.le_of_ble_eq_true rfl) rfl dX7_scanToken_48 (fun hb27 => ?_)
        exact r_iret hx hf dX7_scanToken_51
    · have hf := (f_ite hf).2 q10
      refine r_aloadn hx 1 rfl rfl dX7_scanToken_31 ?_
      refine r_iloadn hx 2 rfl rfl dX7_scanToken_32 ?_
      refine r_iloadn hx 3 rfl rfl dX7_scanToken_33 ?_
      obtain ⟨r30, μ29, c28, hf⟩ := f_bd2 hf
      refine r_callV hx (As := [.int a1, .int a2]) (rest := []) (st1 := [.int r30]) (c := 7) (i := 0) (TT := T7) (N := 11) MK_X7_scanWord rfl wi_X7_scanWord we_X7_scanWord wm_X7_72 ⟨Nat.le_refl _, Nat.le_refl _⟩ (cX7_scanWord hk e_this c28) e_this (Nat.le_of_ble_eq_true rfl) rfl rfl (Nat.le_of_ble_eq_true rfl) rfl dX7_scanToken_34 (fun hb31 => ?_)
      exact r_iret hx hf dX7_scanToken_37
  · have hf := (f_ite hf).2 q1
    refine r_aloadn hx 0 rfl rfl dX7_scanToken_8 ?_
    refine r_getR hx (c' := 30) (i' := 0) FK7_7 e_this rfl wf_X7_13 dX7_scanToken_9 (fun e32 => ?_)
    refine r_iloadn hx 1 rfl rfl dX7_scanToken_12 ?_
    refine r_bipush hx cb_33 dX7_scanToken_13 ?_
    obtain ⟨b33, hf⟩ := f_chk hf
    refine r_iast hx (by decide) rfl e32 b33 rfl dX7_scanToken_15 ?_
    refine r_iloadn hx 2 rfl rfl dX7_scanToken_16 ?_
    exact r_iret hx hf dX7_scanToken_17
theorem dX7_takeUp_0 : decode bX7_takeUp 0 = .ok (.iload_n 1, 1) := by decide +kernel
theorem dX7_takeUp_1 : decode bX7_takeUp 1 = .ok (.ifCond .lt 10, 3) := by decide +kernel
theorem dX7_takeUp_4 : decode bX7_takeUp 4 = .ok (.iload_n 1, 1) := by decide +kernel
theorem dX7_takeUp_5 : decode bX7_takeUp 5 = .ok (.sipush 400, 3) := by decide +kernel
theorem dX7_takeUp_8 : decode bX7_takeUp 8 = .ok (.if_icmp .le 4, 3) := by decide +kernel
theorem dX7_takeUp_11 : decode bX7_takeUp 11 = .ok (.return_, 1) := by decide +kernel
theorem dX7_takeUp_12 : decode bX7_takeUp 12 = .ok (.aload_n 0, 1) := by decide +kernel
theorem dX7_takeUp_13 : decode bX7_takeUp 13 = .ok (.iload_n 1, 1) := by decide +kernel
theorem dX7_takeUp_14 : decode bX7_takeUp 14 = .ok (.putfield 47, 3) := by decide +kernel
theorem dX7_takeUp_17 : decode bX7_takeUp 17 = .ok (.aload_n 0, 1) := by decide +kernel
theorem dX7_takeUp_18 : decode bX7_takeUp 18 = .ok (.aload_n 0, 1) := by decide +kernel
theorem dX7_takeUp_19 : decode bX7_takeUp 19 = .ok (.getfield 13, 3) := by decide +kernel
theorem dX7_takeUp_22 : decode bX7_takeUp 22 = .ok (.iload_n 1, 1) := by decide +kernel
theorem dX7_takeUp_23 : decode bX7_takeUp 23 = .ok (.iaload, 1) := by decide +kernel
theorem dX7_takeUp_24 : decode bX7_takeUp 24 = .ok (.putfield 50, 3) := by decide +kernel
theorem dX7_takeUp_27 : decode bX7_takeUp 27 = .ok (.aload_n 0, 1) := by decide +kernel
theorem dX7_takeUp_28 : decode bX7_takeUp 28 = .ok (.aload_n 0, 1) := by decide +kernel
theorem dX7_takeUp_29 : decode bX7_takeUp 29 = .ok (.getfield 17, 3) := by decide +kernel
theorem dX7_takeUp_32 : decode bX7_takeUp 32 = .ok (.iload_n 1, 1) := by decide +kernel
theorem dX7_takeUp_33 : decode bX7_takeUp 33 = .ok (.iaload, 1) := by decide +kernel
theorem dX7_takeUp_34 : decode bX7_takeUp 34 = .ok (.putfield 53, 3) := by decide +kernel
theorem dX7_takeUp_37 : decode bX7_takeUp 37 = .ok (.aload_n 0, 1) := by decide +kernel
theorem dX7_takeUp_38 : decode bX7_takeUp 38 = .ok (.aload_n 0, 1) := by decide +kernel
theorem dX7_takeUp_39 : decode bX7_takeUp 39 = .ok (.getfield 20, 3) := by decide +kernel
theorem dX7_takeUp_42 : decode bX7_takeUp 42 = .ok (.iload_n 1, 1) := by decide +kernel
theorem dX7_takeUp_43 : decode bX7_takeUp 43 = .ok (.iaload, 1) := by decide +kernel
theorem dX7_takeUp_44 : decode bX7_takeUp 44 = .ok (.putfield 56, 3) := by decide +kernel
theorem dX7_takeUp_47 : decode bX7_takeUp 47 = .ok (.aload_n 0, 1) := by decide +kernel
theorem dX7_takeUp_48 : decode bX7_takeUp 48 = .ok (.aload_n 0, 1) := by decide +kernel
theorem dX7_takeUp_49 : decode bX7_takeUp 49 = .ok (.getfield 23, 3) := by decide +kernel
theorem dX7_takeUp_52 : decode bX7_takeUp 52 = .ok (.iload_n 1, 1) := by decide +kernel
theorem dX7_takeUp_53 : decode bX7_takeUp 53 = .ok (.laload, 1) := by decide +kernel
theorem dX7_takeUp_54 : decode bX7_takeUp 54 = .ok (.putfield 59, 3) := by decide +kernel
theorem dX7_takeUp_57 : decode bX7_takeUp 57 = .ok (.return_, 1) := by decide +kernel
set_option maxRecDepth 20000 in
set_option maxHeartbeats 4000000 in
theorem cX7_takeUp {l : Launch} {k : Kx} {F : Nat} {a1 : Int32} {μ μ' : Mm} (hk : kok k) (e_this : kex k 7 0) (hf : fX7_takeUp F a1 μ = some μ') : MM l k 0 yX7_takeUp bX7_takeUp 2 none [.ref (kad k 7 0), .int a1] μ none μ' := by
  refine MM.of (lv := [(0, .ref (kad k 7 0)), (1, .int a1)]) (plainFor_of_name (by decide)) hk (Nat.le_of_ble_eq_true rfl) rfl (fun z hl hx => ?_)
  subst hl
  have hx : Ok z k bX7_takeUp 2 "RopeDance$Tape" none 0 (0, 0) := hx
  unfold fX7_takeUp at hf
  refine r_iloadn hx 1 rfl rfl dX7_takeUp_0 ?_
  refine r_iflt (tgt := 11) hx rfl dX7_takeUp_1 (fun q1 => ?_) (fun q1 => ?_)
  · have hf := (f_ite hf).1 q1
    exact r_vret hx hf dX7_takeUp_11
  · have hf := (f_ite hf).2 q1
    refine r_iloadn hx 1 rfl rfl dX7_takeUp_4 ?_
    refine r_sipush hx cs_400 dX7_takeUp_5 ?_
    refine r_icle (tgt := 12) hx rfl dX7_takeUp_8 (fun q2 => ?_) (fun q2 => ?_)
    · have hf := (f_ite hf).1 q2
      refine r_aloadn hx 0 rfl rfl dX7_takeUp_12 ?_
      refine r_iloadn hx 1 rfl rfl dX7_takeUp_13 ?_
      refine r_putI (ty := .int) hx FK7_1 (fun T N h => by cases h; rfl) e_this wf_X7_47 (by decide +kernel) rfl rfl dX7_takeUp_14 ?_
      refine r_aloadn hx 0 rfl rfl dX7_takeUp_17 ?_
      refine r_aloadn hx 0 rfl rfl dX7_takeUp_18 ?_
      refine r_getR hx (c' := 30) (i' := 0) FK7_7 e_this rfl wf_X7_13 dX7_takeUp_19 (fun e3 => ?_)
      refine r_iloadn hx 1 rfl rfl dX7_takeUp_22 ?_
      obtain ⟨b4, hf⟩ := f_chk hf
      refine r_iald hx (by decide) rfl e3 b4 rfl dX7_takeUp_23 ?_
      refine r_putI (ty := .int) hx FK7_2 (fun T N h => by cases h; rfl) e_this wf_X7_50 (by decide +kernel) rfl rfl dX7_takeUp_24 ?_
      refine r_aloadn hx 0 rfl rfl dX7_takeUp_27 ?_
      refine r_aloadn hx 0 rfl rfl dX7_takeUp_28 ?_
      refine r_getR hx (c' := 31) (i' := 0) FK7_8 e_this rfl wf_X7_17 dX7_takeUp_29 (fun e5 => ?_)
      refine r_iloadn hx 1 rfl rfl dX7_takeUp_32 ?_
      refine r_iald hx (by decide) rfl e5 b4 rfl dX7_takeUp_33 ?_
      refine r_putI (ty := .int) hx FK7_3 (fun T N h => by cases h; rfl) e_this wf_X7_53 (by decide +kernel) rfl rfl dX7_takeUp_34 ?_
      refine r_aloadn hx 0 rfl rfl dX7_takeUp_37 ?_
      refine r_aloadn hx 0 rfl rfl dX7_takeUp_38 ?_
      refine r_getR hx (c' := 32) (i' := 0) FK7_9 e_this rfl wf_X7_20 dX7_takeUp_39 (fun e6 => ?_)
      refine r_iloadn hx 1 rfl rfl dX7_takeUp_42 ?_
      refine r_iald hx (by decide) rfl e6 b4 rfl dX7_takeUp_43 ?_
      refine r_putI (ty := .int) hx FK7_4 (fun T N h => by cases h; rfl) e_this wf_X7_56 (by decide +kernel) rfl rfl dX7_takeUp_44 ?_
      refine r_aloadn hx 0 rfl rfl dX7_takeUp_47 ?_
      refine r_aloadn hx 0 rfl rfl dX7_takeUp_48 ?_
      refine r_getR hx (c' := 33) (i' := 0) FK7_10 e_this rfl wf_X7_23 dX7_takeUp_49 (fun e7 => ?_)
      refine r_iloadn hx 1 rfl rfl dX7_takeUp_52 ?_
      refine r_lald hx (by decide) rfl e7 b4 rfl dX7_takeUp_53 ?_
      refine r_putL hx FK7_5 (fun T N h => by cases h; rfl) e_this wf_X7_59 (by decide +kernel) dX7_takeUp_54 ?_
      exact r_vret hx hf dX7_takeUp_57
    · have hf := (f_ite hf).2 q2
      exact r_vret hx hf dX7_takeUp_11
theorem dX7_scan_0 : decode bX7_scan 0 = .ok (.iconst 0, 1) := by decide +kernel
theorem dX7_scan_1 : decode bX7_scan 1 = .ok (.istore_n 1, 1) := by decide +kernel
theorem dX7_scan_2 : decode bX7_scan 2 = .ok (.iconst 0, 1) := by decide +kernel
theorem dX7_scan_3 : decode bX7_scan 3 = .ok (.istore_n 2, 1) := by decide +kernel
theorem dX7_scan_4 : decode bX7_scan 4 = .ok (.iload_n 2, 1) := by decide +kernel
theorem dX7_scan_5 : decode bX7_scan 5 = .ok (.sipush 400, 3) := by decide +kernel
theorem dX7_scan_8 : decode bX7_scan 8 = .ok (.if_icmp .gt 54, 3) := by decide +kernel
theorem dX7_scan_11 : decode bX7_scan 11 = .ok (.aload_n 0, 1) := by decide +kernel
theorem dX7_scan_12 : decode bX7_scan 12 = .ok (.iload_n 1, 1) := by decide +kernel
theorem dX7_scan_13 : decode bX7_scan 13 = .ok (.invokevirtual 35, 3) := by decide +kernel
theorem dX7_scan_16 : decode bX7_scan 16 = .ok (.istore_n 1, 1) := by decide +kernel
theorem dX7_scan_17 : decode bX7_scan 17 = .ok (.aload_n 0, 1) := by decide +kernel
theorem dX7_scan_18 : decode bX7_scan 18 = .ok (.getfield 17, 3) := by decide +kernel
theorem dX7_scan_21 : decode bX7_scan 21 = .ok (.iload_n 2, 1) := by decide +kernel
theorem dX7_scan_22 : decode bX7_scan 22 = .ok (.iload_n 1, 1) := by decide +kernel
theorem dX7_scan_23 : decode bX7_scan 23 = .ok (.iastore, 1) := by decide +kernel
theorem dX7_scan_24 : decode bX7_scan 24 = .ok (.aload_n 0, 1) := by decide +kernel
theorem dX7_scan_25 : decode bX7_scan 25 = .ok (.iload_n 2, 1) := by decide +kernel
theorem dX7_scan_26 : decode bX7_scan 26 = .ok (.iload_n 1, 1) := by decide +kernel
theorem dX7_scan_27 : decode bX7_scan 27 = .ok (.invokevirtual 39, 3) := by decide +kernel
theorem dX7_scan_30 : decode bX7_scan 30 = .ok (.istore_n 1, 1) := by decide +kernel
theorem dX7_scan_31 : decode bX7_scan 31 = .ok (.aload_n 0, 1) := by decide +kernel
theorem dX7_scan_32 : decode bX7_scan 32 = .ok (.getfield 13, 3) := by decide +kernel
theorem dX7_scan_35 : decode bX7_scan 35 = .ok (.iload_n 2, 1) := by decide +kernel
theorem dX7_scan_36 : decode bX7_scan 36 = .ok (.iaload, 1) := by decide +kernel
theorem dX7_scan_37 : decode bX7_scan 37 = .ok (.bipush 33, 2) := by decide +kernel
theorem dX7_scan_39 : decode bX7_scan 39 = .ok (.if_icmp .eq 23, 3) := by decide +kernel
theorem dX7_scan_42 : decode bX7_scan 42 = .ok (.aload_n 0, 1) := by decide +kernel
theorem dX7_scan_43 : decode bX7_scan 43 = .ok (.getfield 13, 3) := by decide +kernel
theorem dX7_scan_46 : decode bX7_scan 46 = .ok (.iload_n 2, 1) := by decide +kernel
theorem dX7_scan_47 : decode bX7_scan 47 = .ok (.iaload, 1) := by decide +kernel
theorem dX7_scan_48 : decode bX7_scan 48 = .ok (.bipush 34, 2) := by decide +kernel
theorem dX7_scan_50 : decode bX7_scan 50 = .ok (.if_icmp .ne 6, 3) := by decide +kernel
theorem dX7_scan_53 : decode bX7_scan 53 = .ok (.goto 9, 3) := by decide +kernel
theorem dX7_scan_56 : decode bX7_scan 56 = .ok (.iinc 2 1, 3) := by decide +kernel
theorem dX7_scan_59 : decode bX7_scan 59 = .ok (.goto (-55), 3) := by decide +kernel
theorem dX7_scan_62 : decode bX7_scan 62 = .ok (.aload_n 0, 1) := by decide +kernel
theorem dX7_scan_63 : decode bX7_scan 63 = .ok (.iconst 0, 1) := by decide +kernel
theorem dX7_scan_64 : decode bX7_scan 64 = .ok (.invokevirtual 43, 3) := by decide +kernel
theorem dX7_scan_67 : decode bX7_scan 67 = .ok (.return_, 1) := by decide +kernel
set_option maxRecDepth 20000 in
set_option maxHeartbeats 4000000 in
theorem cX7_scan {l : Launch} {k : Kx} {F : Nat} {μ μ' : Mm} (hk : kok k) (e_this : kex k 7 0) (hf : fX7_scan F μ = some μ') : MM l k 7 yX7_scan bX7_scan 3 none [.ref (kad k 7 0)] μ none μ' := by
  refine MM.of (lv := [(0, .ref (kad k 7 0))]) (plainFor_of_name (by decide)) hk (Nat.le_of_ble_eq_true rfl) rfl (fun z hl hx => ?_)
  subst hl
  have hx : Ok z k bX7_scan 3 "RopeDance$Tape" none 7 (0, 0) := hx
  have L62 : ∀ (μ : Mm) (e_v0 : kex k 7 0), fX7_scan_L62 F  μ = some μ' → Gw z k 3 (k, (0, 0), none, none, μ') (0, 0) 62 μ [(0, .ref (kad k 7 0))] [] := by
    intro  μ e_v0 hf
    unfold fX7_scan_L62 at hf
    refine r_aloadn hx 0 rfl rfl dX7_scan_62 ?_
    refine r_iconst hx ci_0 dX7_scan_63 ?_
    obtain ⟨μ3, c2, hf⟩ := f_bd1 hf
    refine r_callV hx (As := [.int 0]) (rest := []) (st1 := []) (c := 7) (i := 0) (TT := T7) (N := 11) MK_X7_takeUp rfl wi_X7_takeUp we_X7_takeUp wm_X7_43 ⟨Nat.le_refl _, Nat.le_refl _⟩ (cX7_takeUp hk e_v0 c2) e_v0 (Nat.le_of_ble_eq_true rfl) rfl rfl (Nat.le_of_ble_eq_true rfl) rfl dX7_scan_64 (fun hb4 => ?_)
    exact r_vret hx hf dX7_scan_67
  have L4 : ∀ (n : Nat) (v1 : Int32) (v2 : Int32) (μ : Mm) (e_v0 : kex k 7 0), fX7_scan_L4 F n v1 v2 μ = some μ' → Gw z k 3 (k, (0, 0), none, none, μ') (0, 0) 4 μ [(0, .ref (kad k 7 0)), (1, .int v1), (2, .int v2)] [] := by
    intro  n
    induction n with
    | zero =>
      intro v1 v2 μ e_v0 hf
      exact f_no (show (none : Option (Mm)) = _ from hf)
    | succ n ih =>
      intro v1 v2 μ e_v0 hf
      rw [fX7_scan_L4] at hf
      refine r_iloadn hx 2 rfl rfl dX7_scan_4 ?_
      refine r_sipush hx cs_400 dX7_scan_5 ?_
      refine r_icgt (tgt := 62) hx rfl dX7_scan_8 (fun q1 => ?_) (fun q1 => ?_)
      · have hf := (f_ite hf).1 q1
        refine r_sub [0] rfl ?_
        exact L62   μ e_v0 hf
      · have hf := (f_ite hf).2 q1
        refine r_aloadn hx 0 rfl rfl dX7_scan_11 ?_
        refine r_iloadn hx 1 rfl rfl dX7_scan_12 ?_
        obtain ⟨r7, μ6, c5, hf⟩ := f_bd2 hf
        refine r_callV hx (As := [.int v1]) (rest := []) (st1 := [.int r7]) (c := 7) (i := 0) (TT := T7) (N := 11) MK_X7_behindBlanks rfl wi_X7_behindBlanks we_X7_behindBlanks wm_X7_35 ⟨Nat.le_refl _, Nat.le_refl _⟩ (cX7_behindBlanks hk e_v0 c5) e_v0 (Nat.le_of_ble_eq_true rfl) rfl rfl (Nat.le_of_ble_eq_true rfl) rfl dX7_scan_13 (fun hb8 => ?_)
        refine r_istoren (lv' := [(1, .int r7), (0, .ref (kad k 7 0)), (2, .int v2)]) hx rfl (Nat.le_of_ble_eq_true rfl) rfl dX7_scan_16 ?_
        refine r_aloadn hx 1 rfl rfl dX7_scan_17 ?_
        refine r_getR hx (c' := 31) (i' := 0) FK7_8 e_v0 rfl wf_X7_17 dX7_scan_18 (fun e9 => ?_)
        refine r_iloadn hx 2 rfl rfl dX7_scan_21 ?_
        refine r_iloadn hx 0 rfl rfl dX7_scan_22 ?_
        obtain ⟨b10, hf⟩ := f_chk hf
        refine r_iast hx (by decide) rfl e9 b10 rfl dX7_scan_23 ?_
        refine r_aloadn hx 1 rfl rfl dX7_scan_24 ?_
        refine r_iloadn hx 2 rfl rfl dX7_scan_25 ?_
        refine r_iloadn hx 0 rfl rfl dX7_scan_26 ?_
        obtain ⟨r13, μ12, c11, hf⟩ := f_bd2 hf
        refine r_callV hx (As := [.int v2, .int r7]) (rest := []) (st1 := [.int r13]) (c := 7) (i := 0) (TT := T7) (N := 11) MK_X7_scanToken rfl wi_X7_scanToken we_X7_scanToken wm_X7_39 ⟨Nat.le_refl _, Nat.le_refl _⟩ (cX7_scanToken hk e_v0 c11) e_v0 (Nat.le_of_ble_eq_true rfl) rfl rfl (Nat.le_of_ble_eq_true rfl) rfl dX7_scan_27 (fun hb14 => ?_)
        refine r_istoren (lv' := [(1, .int r13), (0, .ref (kad k 7 0)), (2, .int v2)]) hx rfl (Nat.le_of_ble_eq_true rfl) rfl dX7_scan_30 ?_
        refine r_aloadn hx 1 rfl rfl dX7_scan_31 ?_
        refine r_getR hx (c' := 30) (i' := 0) FK7_7 e_v0 rfl wf_X7_13 dX7_scan_32 (fun e15 => ?_)
        refine r_iloadn hx 2 rfl rfl dX7_scan_35 ?_
        refine r_iald hx (by decide) rfl e15 b10 rfl dX7_scan_36 ?_
        refine r_bipush hx cb_33 dX7_scan_37 ?_
        refine r_iceq (tgt := 62) hx rfl dX7_scan_39 (fun q16 => ?_) (fun q16 => ?_)
        · have hf := (f_ite hf).1 q16
          refine r_sub [1] rfl ?_
          exact L62   μ12 e_v0 hf
        · have hf := (f_ite hf).2 q16
          refine r_aloadn hx 1 rfl rfl dX7_scan_42 ?_
          refine r_getR hx (c' := 30) (i' := 0) FK7_7 e_v0 rfl wf_X7_13 dX7_scan_43 (fun e17 => ?_)
          refine r_iloadn hx 2 rfl rfl dX7_scan_46 ?_
          refine r_iald hx (by decide) rfl e17 b10 rfl dX7_scan_47 ?_
          refine r_bipush hx cb_34 dX7_scan_48 ?_
          refine r_icne (tgt := 56) hx rfl dX7_scan_50 (fun q18 => ?_) (fun q18 => ?_)
          · have hf := (f_ite hf).2 q18
            refine r_iinc (lv' := [(2, .int (v2 + 1)), (1, .int r13), (0, .ref (kad k 7 0))]) hx 2 rfl (congrArg (fun y => v2 + y) ci_1) (Nat.le_of_ble_eq_true rfl) rfl dX7_scan_56 ?_
            refine r_goto (tgt := 4) hx rfl dX7_scan_59 ?_
            refine r_sub [2, 1, 0] rfl ?_
            exact ih r13 (v2 + 1) μ12 e_v0 hf
          · have hf := (f_ite hf).1 q18
            refine r_goto (tgt := 62) hx rfl dX7_scan_53 ?_
            refine r_sub [1] rfl ?_
            exact L62   μ12 e_v0 hf
  unfold fX7_scan at hf
  refine r_iconst hx ci_0 dX7_scan_0 ?_
  refine r_istoren (lv' := [(1, .int 0), (0, .ref (kad k 7 0))]) hx rfl (Nat.le_of_ble_eq_true rfl) rfl dX7_scan_1 ?_
  refine r_iconst hx ci_0 dX7_scan_2 ?_
  refine r_istoren (lv' := [(2, .int 0), (1, .int 0), (0, .ref (kad k 7 0))]) hx rfl (Nat.le_of_ble_eq_true rfl) rfl dX7_scan_3 ?_
  refine r_sub [2, 1, 0] rfl ?_
  exact L4 F 0 0 μ e_this hf
theorem dX2_fail_0 : decode bX2_fail 0 = .ok (.aload_n 0, 1) := by decide +kernel
theorem dX2_fail_1 : decode bX2_fail 1 = .ok (.getfield 34, 3) := by decide +kernel
theorem dX2_fail_4 : decode bX2_fail 4 = .ok (.ifCond .ne 19, 3) := by decide +kernel
theorem dX2_fail_7 : decode bX2_fail 7 = .ok (.aload_n 0, 1) := by decide +kernel
theorem dX2_fail_8 : decode bX2_fail 8 = .ok (.iload_n 1, 1) := by decide +kernel
theorem dX2_fail_9 : decode bX2_fail 9 = .ok (.putfield 34, 3) := by decide +kernel
theorem dX2_fail_12 : decode bX2_fail 12 = .ok (.aload_n 0, 1) := by decide +kernel
theorem dX2_fail_13 : decode bX2_fail 13 = .ok (.aload_n 0, 1) := by decide +kernel
theorem dX2_fail_14 : decode bX2_fail 14 = .ok (.getfield 9, 3) := by decide +kernel
theorem dX2_fail_17 : decode bX2_fail 17 = .ok (.getfield 60, 3) := by decide +kernel
theorem dX2_fail_20 : decode bX2_fail 20 = .ok (.putfield 30, 3) := by decide +kernel
theorem dX2_fail_23 : decode bX2_fail 23 = .ok (.return_, 1) := by decide +kernel
set_option maxRecDepth 20000 in
set_option maxHeartbeats 4000000 in
theorem cX2_fail {l : Launch} {k : Kx} {F : Nat} {a1 : Int32} {μ μ' : Mm} (hk : kok k) (e_this : kex k 2 0) (hf : fX2_fail F a1 μ = some μ') : MM l k 0 yX2_fail bX2_fail 2 none [.ref (kad k 2 0), .int a1] μ none μ' := by
  refine MM.of (lv := [(0, .ref (kad k 2 0)), (1, .int a1)]) (plainFor_of_name (by decide)) hk (Nat.le_of_ble_eq_true rfl) rfl (fun z hl hx => ?_)
  subst hl
  have hx : Ok z k bX2_fail 2 "RopeDance$Reader" none 0 (0, 0) := hx
  unfold fX2_fail at hf
  refine r_aloadn hx 0 rfl rfl dX2_fail_0 ?_
  refine r_getI hx FK2_0 e_this wf_X2_34 dX2_fail_1 ?_
  refine r_ifne (tgt := 23) hx rfl dX2_fail_4 (fun q1 => ?_) (fun q1 => ?_)
  · have hf := (f_ite hf).2 q1
    exact r_vret hx hf dX2_fail_23
  · have hf := (f_ite hf).1 q1
    refine r_aloadn hx 0 rfl rfl dX2_fail_7 ?_
    refine r_iloadn hx 1 rfl rfl dX2_fail_8 ?_
    refine r_putI (ty := .int) hx FK2_0 (fun T N h => by cases h; rfl) e_this wf_X2_34 (by decide +kernel) rfl rfl dX2_fail_9 ?_
    refine r_aloadn hx 0 rfl rfl dX2_fail_12 ?_
    refine r_aloadn hx 0 rfl rfl dX2_fail_13 ?_
    refine r_getR hx (c' := 7) (i' := 0) FK2_2 e_this rfl wf_X2_9 dX2_fail_14 (fun e2 => ?_)
    refine r_getI hx FK7_3 e2 wf_X2_60 dX2_fail_17 ?_
    refine r_putI (ty := .int) hx FK2_1 (fun T N h => by cases h; rfl) e_this wf_X2_30 (by decide +kernel) rfl rfl dX2_fail_20 ?_
    exact r_vret hx hf dX2_fail_23
theorem dX2_isAt_0 : decode bX2_isAt 0 = .ok (.aload_n 0, 1) := by decide +kernel
theorem dX2_isAt_1 : decode bX2_isAt 1 = .ok (.getfield 34, 3) := by decide +kernel
theorem dX2_isAt_4 : decode bX2_isAt 4 = .ok (.ifCond .ne 18, 3) := by decide +kernel
theorem dX2_isAt_7 : decode bX2_isAt 7 = .ok (.aload_n 0, 1) := by decide +kernel
theorem dX2_isAt_8 : decode bX2_isAt 8 = .ok (.getfield 9, 3) := by decide +kernel
theorem dX2_isAt_11 : decode bX2_isAt 11 = .ok (.getfield 53, 3) := by decide +kernel
theorem dX2_isAt_14 : decode bX2_isAt 14 = .ok (.iload_n 1, 1) := by decide +kernel
theorem dX2_isAt_15 : decode bX2_isAt 15 = .ok (.if_icmp .ne 7, 3) := by decide +kernel
theorem dX2_isAt_18 : decode bX2_isAt 18 = .ok (.iconst 1, 1) := by decide +kernel
theorem dX2_isAt_19 : decode bX2_isAt 19 = .ok (.goto 4, 3) := by decide +kernel
theorem dX2_isAt_22 : decode bX2_isAt 22 = .ok (.iconst 0, 1) := by decide +kernel
theorem dX2_isAt_23 : decode bX2_isAt 23 = .ok (.ireturn, 1) := by decide +kernel
set_option maxRecDepth 20000 in
set_option maxHeartbeats 4000000 in
theorem cX2_isAt {l : Launch} {k : Kx} {F : Nat} {a1 : Int32} {μ μ' : Mm} {r : Int32} (hk : kok k) (e_this : kex k 2 0) (hf : fX2_isAt F a1 μ = some (r, μ')) : MM l k 0 yX2_isAt bX2_isAt 2 (some .boolean) [.ref (kad k 2 0), .int a1] μ (some (.int r)) μ' := by
  refine MM.of (lv := [(0, .ref (kad k 2 0)), (1, .int a1)]) (plainFor_of_name (by decide)) hk (Nat.le_of_ble_eq_true rfl) rfl (fun z hl hx => ?_)
  subst hl
  have hx : Ok z k bX2_isAt 2 "RopeDance$Reader" (some .boolean) 0 (0, 0) := hx
  unfold fX2_isAt at hf
  refine r_aloadn hx 0 rfl rfl dX2_isAt_0 ?_
  refine r_getI hx FK2_0 e_this wf_X2_34 dX2_isAt_1 ?_
  refine r_ifne (tgt := 22) hx rfl dX2_isAt_4 (fun q1 => ?_) (fun q1 => ?_)
  · have hf := (f_ite hf).2 q1
    refine r_iconst hx ci_0 dX2_isAt_22 ?_
    exact r_zret hx hf rfl dX2_isAt_23
  · have hf := (f_ite hf).1 q1
    refine r_aloadn hx 0 rfl rfl dX2_isAt_7 ?_
    refine r_getR hx (c' := 7) (i' := 0) FK2_2 e_this rfl wf_X2_9 dX2_isAt_8 (fun e2 => ?_)
    refine r_getI hx FK7_2 e2 wf_X2_53 dX2_isAt_11 ?_
    refine r_iloadn hx 1 rfl rfl dX2_isAt_14 ?_
    refine r_icne (tgt := 22) hx rfl dX2_isAt_15 (fun q3 => ?_) (fun q3 => ?_)
    · have hf := (f_ite hf).2 q3
      refine r_iconst hx ci_0 dX2_isAt_22 ?_
      exact r_zret hx hf rfl dX2_isAt_23
    · have hf := (f_ite hf).1 q3
      refine r_iconst hx ci_1 dX2_isAt_18 ?_
      refine r_goto (tgt := 23) hx rfl dX2_isAt_19 ?_
      exact r_zret hx hf rfl dX2_isAt_23
theorem dX2_take_0 : decode bX2_take 0 = .ok (.aload_n 0, 1) := by decide +kernel
theorem dX2_take_1 : decode bX2_take 1 = .ok (.iload_n 1, 1) := by decide +kernel
theorem dX2_take_2 : decode bX2_take 2 = .ok (.invokevirtual 61, 3) := by decide +kernel
theorem dX2_take_5 : decode bX2_take 5 = .ok (.ifCond .ne 11, 3) := by decide +kernel
theorem dX2_take_8 : decode bX2_take 8 = .ok (.aload_n 0, 1) := by decide +kernel
theorem dX2_take_9 : decode bX2_take 9 = .ok (.iconst 1, 1) := by decide +kernel
theorem dX2_take_10 : decode bX2_take 10 = .ok (.invokevirtual 65, 3) := by decide +kernel
theorem dX2_take_13 : decode bX2_take 13 = .ok (.goto 40, 3) := by decide +kernel
theorem dX2_take_16 : decode bX2_take 16 = .ok (.aload_n 0, 1) := by decide +kernel
theorem dX2_take_17 : decode bX2_take 17 = .ok (.getfield 9, 3) := by decide +kernel
theorem dX2_take_20 : decode bX2_take 20 = .ok (.getfield 68, 3) := by decide +kernel
theorem dX2_take_23 : decode bX2_take 23 = .ok (.sipush 400, 3) := by decide +kernel
theorem dX2_take_26 : decode bX2_take 26 = .ok (.if_icmp .lt 11, 3) := by decide +kernel
theorem dX2_take_29 : decode bX2_take 29 = .ok (.aload_n 0, 1) := by decide +kernel
theorem dX2_take_30 : decode bX2_take 30 = .ok (.iconst 2, 1) := by decide +kernel
theorem dX2_take_31 : decode bX2_take 31 = .ok (.invokevirtual 65, 3) := by decide +kernel
theorem dX2_take_34 : decode bX2_take 34 = .ok (.goto 19, 3) := by decide +kernel
theorem dX2_take_37 : decode bX2_take 37 = .ok (.aload_n 0, 1) := by decide +kernel
theorem dX2_take_38 : decode bX2_take 38 = .ok (.getfield 9, 3) := by decide +kernel
theorem dX2_take_41 : decode bX2_take 41 = .ok (.aload_n 0, 1) := by decide +kernel
theorem dX2_take_42 : decode bX2_take 42 = .ok (.getfield 9, 3) := by decide +kernel
theorem dX2_take_45 : decode bX2_take 45 = .ok (.getfield 68, 3) := by decide +kernel
theorem dX2_take_48 : decode bX2_take 48 = .ok (.iconst 1, 1) := by decide +kernel
theorem dX2_take_49 : decode bX2_take 49 = .ok (.iadd, 1) := by decide +kernel
theorem dX2_take_50 : decode bX2_take 50 = .ok (.invokevirtual 71, 3) := by decide +kernel
theorem dX2_take_53 : decode bX2_take 53 = .ok (.return_, 1) := by decide +kernel
set_option maxRecDepth 20000 in
set_option maxHeartbeats 4000000 in
theorem cX2_take {l : Launch} {k : Kx} {F : Nat} {a1 : Int32} {μ μ' : Mm} (hk : kok k) (e_this : kex k 2 0) (hf : fX2_take F a1 μ = some μ') : MM l k 1 yX2_take bX2_take 2 none [.ref (kad k 2 0), .int a1] μ none μ' := by
  refine MM.of (lv := [(0, .ref (kad k 2 0)), (1, .int a1)]) (plainFor_of_name (by decide)) hk (Nat.le_of_ble_eq_true rfl) rfl (fun z hl hx => ?_)
  subst hl
  have hx : Ok z k bX2_take 2 "RopeDance$Reader" none 1 (0, 0) := hx
  unfold fX2_take at hf
  refine r_aloadn hx 0 rfl rfl dX2_take_0 ?_
  refine r_iloadn hx 1 rfl rfl dX2_take_1 ?_
  obtain ⟨r3, μ2, c1, hf⟩ := f_bd2 hf
  refine r_callV hx (As := [.int a1]) (rest := []) (st1 := [.int r3]) (c := 2) (i := 0) (TT := T2) (N := 10) MK_X2_isAt rfl wi_X2_isAt we_X2_isAt wm_X2_61 ⟨Nat.le_refl _, Nat.le_refl _⟩ (cX2_isAt hk e_this c1) e_this (Nat.le_of_ble_eq_true rfl) rfl rfl (Nat.le_of_ble_eq_true rfl) rfl dX2_take_2 (fun hb4 => ?_)
  refine r_ifne (tgt := 16) hx rfl dX2_take_5 (fun q5 => ?_) (fun q5 => ?_)
  · have hf := (f_ite hf).2 q5
    refine r_aloadn hx 0 rfl rfl dX2_take_16 ?_
    refine r_getR hx (c' := 7) (i' := 0) FK2_2 e_this rfl wf_X2_9 dX2_take_17 (fun e6 => ?_)
    refine r_getI hx FK7_1 e6 wf_X2_68 dX2_take_20 ?_
    refine r_sipush hx cs_400 dX2_take_23 ?_
    refine r_iclt (tgt := 37) hx rfl dX2_take_26 (fun q7 => ?_) (fun q7 => ?_)
    · have hf := (f_ite hf).1 q7
      refine r_aloadn hx 0 rfl rfl dX2_take_37 ?_
      refine r_getR hx (c' := 7) (i' := 0) FK2_2 e_this rfl wf_X2_9 dX2_take_38 (fun e8 => ?_)
      refine r_aloadn hx 0 rfl rfl dX2_take_41 ?_
      refine r_getR hx (c' := 7) (i' := 0) FK2_2 e_this rfl wf_X2_9 dX2_take_42 (fun e9 => ?_)
      refine r_getI hx FK7_1 e9 wf_X2_68 dX2_take_45 ?_
      refine r_iconst hx ci_1 dX2_take_48 ?_
      refine r_iadd hx dX2_take_49 ?_
      obtain ⟨μ11, c10, hf⟩ := f_bd1 hf
      refine r_callV hx (As := [.int ((gi μ2 7 0 1) + 1)]) (rest := []) (st1 := []) (c := 7) (i := 0) (TT := T7) (N := 11) MK_X7_takeUp rfl wi_X7_takeUp we_X7_takeUp wm_X2_71 ⟨Nat.le_refl _, Nat.le_refl _⟩ (cX7_takeUp hk e8 c10) e8 (Nat.le_of_ble_eq_true rfl) rfl rfl (Nat.le_of_ble_eq_true rfl) rfl dX2_take_50 (fun hb12 => ?_)
      exact r_vret hx hf dX2_take_53
    · have hf := (f_ite hf).2 q7
      refine r_aloadn hx 0 rfl rfl dX2_take_29 ?_
      refine r_iconst hx ci_2 dX2_take_30 ?_
      obtain ⟨μ14, c13, hf⟩ := f_bd1 hf
      refine r_callV hx (As := [.int 2]) (rest := []) (st1 := []) (c := 2) (i := 0) (TT := T2) (N := 10) MK_X2_fail rfl wi_X2_fail we_X2_fail wm_X2_65 ⟨Nat.le_refl _, Nat.le_refl _⟩ (cX2_fail hk e_this c13) e_this (Nat.le_of_ble_eq_true rfl) rfl rfl (Nat.le_of_ble_eq_true rfl) rfl dX2_take_31 (fun hb15 => ?_)
      refine r_goto (tgt := 53) hx rfl dX2_take_34 ?_
      exact r_vret hx hf dX2_take_53
  · have hf := (f_ite hf).1 q5
    refine r_aloadn hx 0 rfl rfl dX2_take_8 ?_
    refine r_iconst hx ci_1 dX2_take_9 ?_
    obtain ⟨μ17, c16, hf⟩ := f_bd1 hf
    refine r_callV hx (As := [.int 1]) (rest := []) (st1 := []) (c := 2) (i := 0) (TT := T2) (N := 10) MK_X2_fail rfl wi_X2_fail we_X2_fail wm_X2_65 ⟨Nat.le_refl _, Nat.le_refl _⟩ (cX2_fail hk e_this c16) e_this (Nat.le_of_ble_eq_true rfl) rfl rfl (Nat.le_of_ble_eq_true rfl) rfl dX2_take_10 (fun hb18 => ?_)
    refine r_goto (tgt := 53) hx rfl dX2_take_13 ?_
    exact r_vret hx hf dX2_take_53
theorem dX2_isMove_0 : decode bX2_isMove 0 = .ok (.iload_n 0, 1) := by decide +kernel
theorem dX2_isMove_1 : decode bX2_isMove 1 = .ok (.bipush 7, 2) := by decide +kernel
theorem dX2_isMove_3 : decode bX2_isMove 3 = .ok (.if_icmp .lt 13, 3) := by decide +kernel
theorem dX2_isMove_6 : decode bX2_isMove 6 = .ok (.iload_n 0, 1) := by decide +kernel
theorem dX2_isMove_7 : decode bX2_isMove 7 = .ok (.bipush 9, 2) := by decide +kernel
theorem dX2_isMove_9 : decode bX2_isMove 9 = .ok (.if_icmp .gt 7, 3) := by decide +kernel
theorem dX2_isMove_12 : decode bX2_isMove 12 = .ok (.iconst 1, 1) := by decide +kernel
theorem dX2_isMove_13 : decode bX2_isMove 13 = .ok (.goto 4, 3) := by decide +kernel
theorem dX2_isMove_16 : decode bX2_isMove 16 = .ok (.iconst 0, 1) := by decide +kernel
theorem dX2_isMove_17 : decode bX2_isMove 17 = .ok (.ireturn, 1) := by decide +kernel
set_option maxRecDepth 20000 in
set_option maxHeartbeats 4000000 in
theorem cX2_isMove {l : Launch} {k : Kx} {F : Nat} {a0 : Int32} {μ μ' : Mm} {r : Int32} (hk : kok k) (hf : fX2_isMove F a0 μ = some (r, μ')) : MM l k 0 yX2_isMove bX2_isMove 1 (some .boolean) [.int a0] μ (some (.int r)) μ' := by
  refine MM.of (lv := [(0, .int a0)]) (plainFor_of_name (by decide)) hk (Nat.le_of_ble_eq_true rfl) rfl (fun z hl hx => ?_)
  subst hl
  have hx : Ok z k bX2_isMove 1 "RopeDance$Reader" (some .boolean) 0 (0, 0) := hx
  unfold fX2_isMove at hf
  refine r_iloadn hx 0 rfl rfl dX2_isMove_0 ?_
  refine r_bipush hx cb_7 dX2_isMove_1 ?_
  refine r_iclt (tgt := 16) hx rfl dX2_isMove_3 (fun q1 => ?_) (fun q1 => ?_)
  · have hf := (f_ite hf).1 q1
    refine r_iconst hx ci_0 dX2_isMove_16 ?_
    exact r_zret hx hf rfl dX2_isMove_17
  · have hf := (f_ite hf).2 q1
    refine r_iloadn hx 0 rfl rfl dX2_isMove_6 ?_
    refine r_bipush hx cb_9 dX2_isMove_7 ?_
    refine r_icgt (tgt := 16) hx rfl dX2_isMove_9 (fun q2 => ?_) (fun q2 => ?_)
    · have hf := (f_ite hf).1 q2
      refine r_iconst hx ci_0 dX2_isMove_16 ?_
      exact r_zret hx hf rfl dX2_isMove_17
    · have hf := (f_ite hf).2 q2
      refine r_iconst hx ci_1 dX2_isMove_12 ?_
      refine r_goto (tgt := 17) hx rfl dX2_isMove_13 ?_
      exact r_zret hx hf rfl dX2_isMove_17
theorem dX2_suspect_0 : decode bX2_suspect 0 = .ok (.aload_n 0, 1) := by decide +kernel
theorem dX2_suspect_1 : decode bX2_suspect 1 = .ok (.getfield 37, 3) := by decide +kernel
theorem dX2_suspect_4 : decode bX2_suspect 4 = .ok (.ifCond .eq 27, 3) := by decide +kernel
theorem dX2_suspect_7 : decode bX2_suspect 7 = .ok (.iload_n 2, 1) := by decide +kernel
theorem dX2_suspect_8 : decode bX2_suspect 8 = .ok (.aload_n 0, 1) := by decide +kernel
theorem dX2_suspect_9 : decode bX2_suspect 9 = .ok (.getfield 40, 3) := by decide +kernel
theorem dX2_suspect_12 : decode bX2_suspect 12 = .ok (.if_icmp .lt 19, 3) := by decide +kernel
theorem dX2_suspect_15 : decode bX2_suspect 15 = .ok (.iload_n 2, 1) := by decide +kernel
theorem dX2_suspect_16 : decode bX2_suspect 16 = .ok (.aload_n 0, 1) := by decide +kernel
theorem dX2_suspect_17 : decode bX2_suspect 17 = .ok (.getfield 40, 3) := by decide +kernel
theorem dX2_suspect_20 : decode bX2_suspect 20 = .ok (.if_icmp .ne 21, 3) := by decide +kernel
theorem dX2_suspect_23 : decode bX2_suspect 23 = .ok (.iload_n 1, 1) := by decide +kernel
theorem dX2_suspect_24 : decode bX2_suspect 24 = .ok (.aload_n 0, 1) := by decide +kernel
theorem dX2_suspect_25 : decode bX2_suspect 25 = .ok (.getfield 37, 3) := by decide +kernel
theorem dX2_suspect_28 : decode bX2_suspect 28 = .ok (.if_icmp .ge 13, 3) := by decide +kernel
theorem dX2_suspect_31 : decode bX2_suspect 31 = .ok (.aload_n 0, 1) := by decide +kernel
theorem dX2_suspect_32 : decode bX2_suspect 32 = .ok (.iload_n 1, 1) := by decide +kernel
theorem dX2_suspect_33 : decode bX2_suspect 33 = .ok (.putfield 37, 3) := by decide +kernel
theorem dX2_suspect_36 : decode bX2_suspect 36 = .ok (.aload_n 0, 1) := by decide +kernel
theorem dX2_suspect_37 : decode bX2_suspect 37 = .ok (.iload_n 2, 1) := by decide +kernel
theorem dX2_suspect_38 : decode bX2_suspect 38 = .ok (.putfield 40, 3) := by decide +kernel
theorem dX2_suspect_41 : decode bX2_suspect 41 = .ok (.return_, 1) := by decide +kernel
set_option maxRecDepth 20000 in
set_option maxHeartbeats 4000000 in
theorem cX2_suspect {l : Launch} {k : Kx} {F : Nat} {a1 : Int32} {a2 : Int32} {μ μ' : Mm} (hk : kok k) (e_this : kex k 2 0) (hf : fX2_suspect F a1 a2 μ = some μ') : MM l k 0 yX2_suspect bX2_suspect 3 none [.ref (kad k 2 0), .int a1, .int a2] μ none μ' := by
  refine MM.of (lv := [(0, .ref (kad k 2 0)), (1, .int a1), (2, .int a2)]) (plainFor_of_name (by decide)) hk (Nat.le_of_ble_eq_true rfl) rfl (fun z hl hx => ?_)
  subst hl
  have hx : Ok z k bX2_suspect 3 "RopeDance$Reader" none 0 (0, 0) := hx
  have L31 : ∀ (v1 : Int32) (v2 : Int32) (μ : Mm) (e_v0 : kex k 2 0), fX2_suspect_L31 F v1 v2 μ = some μ' → Gw z k 3 (k, (0, 0), none, none, μ') (0, 0) 31 μ [(0, .ref (kad k 2 0)), (1, .int v1), (2, .int v2)] [] := by
    intro  v1 v2 μ e_v0 hf
    unfold fX2_suspect_L31 at hf
    refine r_aloadn hx 0 rfl rfl dX2_suspect_31 ?_
    refine r_iloadn hx 1 rfl rfl dX2_suspect_32 ?_
    refine r_putI (ty := .int) hx FK2_4 (fun T N h => by cases h; rfl) e_v0 wf_X2_37 (by decide +kernel) rfl rfl dX2_suspect_33 ?_
    refine r_aloadn hx 0 rfl rfl dX2_suspect_36 ?_
    refine r_iloadn hx 2 rfl rfl dX2_suspect_37 ?_
    refine r_putI (ty := .int) hx FK2_5 (fun T N h => by cases h; rfl) e_v0 wf_X2_40 (by decide +kernel) rfl rfl dX2_suspect_38 ?_
    exact r_vret hx hf dX2_suspect_41
  unfold fX2_suspect at hf
  refine r_aloadn hx 0 rfl rfl dX2_suspect_0 ?_
  refine r_getI hx FK2_4 e_this wf_X2_37 dX2_suspect_1 ?_
  refine r_ifeq (tgt := 31) hx rfl dX2_suspect_4 (fun q1 => ?_) (fun q1 => ?_)
  · have hf := (f_ite hf).1 q1
    refine r_sub [0, 1, 2] rfl ?_
    exact L31  a1 a2 μ e_this hf
  · have hf := (f_ite hf).2 q1
    refine r_iloadn hx 2 rfl rfl dX2_suspect_7 ?_
    refine r_aloadn hx 0 rfl rfl dX2_suspect_8 ?_
    refine r_getI hx FK2_5 e_this wf_X2_40 dX2_suspect_9 ?_
    refine r_iclt (tgt := 31) hx rfl dX2_suspect_12 (fun q2 => ?_) (fun q2 => ?_)
    · have hf := (f_ite hf).1 q2
      refine r_sub [0, 1, 2] rfl ?_
      exact L31  a1 a2 μ e_this hf
    · have hf := (f_ite hf).2 q2
      refine r_iloadn hx 2 rfl rfl dX2_suspect_15 ?_
      refine r_aloadn hx 0 rfl rfl dX2_suspect_16 ?_
      refine r_getI hx FK2_5 e_this wf_X2_40 dX2_suspect_17 ?_
      refine r_icne (tgt := 41) hx rfl dX2_suspect_20 (fun q3 => ?_) (fun q3 => ?_)
      · have hf := (f_ite hf).2 q3
        exact r_vret hx hf dX2_suspect_41
      · have hf := (f_ite hf).1 q3
        refine r_iloadn hx 1 rfl rfl dX2_suspect_23 ?_
        refine r_aloadn hx 0 rfl rfl dX2_suspect_24 ?_
        refine r_getI hx FK2_4 e_this wf_X2_37 dX2_suspect_25 ?_
        refine r_icge (tgt := 41) hx rfl dX2_suspect_28 (fun q4 => ?_) (fun q4 => ?_)
        · have hf := (f_ite hf).1 q4
          exact r_vret hx hf dX2_suspect_41
        · have hf := (f_ite hf).2 q4
          refine r_sub [0, 1, 2] rfl ?_
          exact L31  a1 a2 μ e_this hf
theorem dX2_readMove_0 : decode bX2_readMove 0 = .ok (.aload_n 0, 1) := by decide +kernel
theorem dX2_readMove_1 : decode bX2_readMove 1 = .ok (.getfield 9, 3) := by decide +kernel
theorem dX2_readMove_4 : decode bX2_readMove 4 = .ok (.getfield 53, 3) := by decide +kernel
theorem dX2_readMove_7 : decode bX2_readMove 7 = .ok (.istore_n 2, 1) := by decide +kernel
theorem dX2_readMove_8 : decode bX2_readMove 8 = .ok (.iconst 0, 1) := by decide +kernel
theorem dX2_readMove_9 : decode bX2_readMove 9 = .ok (.istore_n 3, 1) := by decide +kernel
theorem dX2_readMove_10 : decode bX2_readMove 10 = .ok (.aload_n 1, 1) := by decide +kernel
theorem dX2_readMove_11 : decode bX2_readMove 11 = .ok (.invokevirtual 133, 3) := by decide +kernel
theorem dX2_readMove_14 : decode bX2_readMove 14 = .ok (.ifCond .eq 9, 3) := by decide +kernel
theorem dX2_readMove_17 : decode bX2_readMove 17 = .ok (.aload_n 0, 1) := by decide +kernel
theorem dX2_readMove_18 : decode bX2_readMove 18 = .ok (.iconst 2, 1) := by decide +kernel
theorem dX2_readMove_19 : decode bX2_readMove 19 = .ok (.invokevirtual 65, 3) := by decide +kernel
theorem dX2_readMove_22 : decode bX2_readMove 22 = .ok (.return_, 1) := by decide +kernel
theorem dX2_readMove_23 : decode bX2_readMove 23 = .ok (.aload_n 0, 1) := by decide +kernel
theorem dX2_readMove_24 : decode bX2_readMove 24 = .ok (.iload_n 2, 1) := by decide +kernel
theorem dX2_readMove_25 : decode bX2_readMove 25 = .ok (.invokevirtual 91, 3) := by decide +kernel
theorem dX2_readMove_28 : decode bX2_readMove 28 = .ok (.iload_n 2, 1) := by decide +kernel
theorem dX2_readMove_29 : decode bX2_readMove 29 = .ok (.bipush 9, 2) := by decide +kernel
theorem dX2_readMove_31 : decode bX2_readMove 31 = .ok (.if_icmp .eq 44, 3) := by decide +kernel
theorem dX2_readMove_34 : decode bX2_readMove 34 = .ok (.aload_n 0, 1) := by decide +kernel
theorem dX2_readMove_35 : decode bX2_readMove 35 = .ok (.getfield 9, 3) := by decide +kernel
theorem dX2_readMove_38 : decode bX2_readMove 38 = .ok (.getfield 60, 3) := by decide +kernel
theorem dX2_readMove_41 : decode bX2_readMove 41 = .ok (.istore 4, 2) := by decide +kernel
theorem dX2_readMove_43 : decode bX2_readMove 43 = .ok (.aload_n 0, 1) := by decide +kernel
theorem dX2_readMove_44 : decode bX2_readMove 44 = .ok (.getfield 9, 3) := by decide +kernel
theorem dX2_readMove_47 : decode bX2_readMove 47 = .ok (.getfield 137, 3) := by decide +kernel
theorem dX2_readMove_50 : decode bX2_readMove 50 = .ok (.istore_n 3, 1) := by decide +kernel
theorem dX2_readMove_51 : decode bX2_readMove 51 = .ok (.aload_n 0, 1) := by decide +kernel
theorem dX2_readMove_52 : decode bX2_readMove 52 = .ok (.bipush 23, 2) := by decide +kernel
theorem dX2_readMove_54 : decode bX2_readMove 54 = .ok (.invokevirtual 91, 3) := by decide +kernel
theorem dX2_readMove_57 : decode bX2_readMove 57 = .ok (.iload_n 3, 1) := by decide +kernel
theorem dX2_readMove_58 : decode bX2_readMove 58 = .ok (.iconst 1, 1) := by decide +kernel
theorem dX2_readMove_59 : decode bX2_readMove 59 = .ok (.if_icmp .lt 9, 3) := by decide +kernel
theorem dX2_readMove_62 : decode bX2_readMove 62 = .ok (.iload_n 3, 1) := by decide +kernel
theorem dX2_readMove_63 : decode bX2_readMove 63 = .ok (.bipush 9, 2) := by decide +kernel
theorem dX2_readMove_65 : decode bX2_readMove 65 = .ok (.if_icmp .le 10, 3) := by decide +kernel
theorem dX2_readMove_68 : decode bX2_readMove 68 = .ok (.aload_n 0, 1) := by decide +kernel
theorem dX2_readMove_69 : decode bX2_readMove 69 = .ok (.iconst 5, 1) := by decide +kernel
theorem dX2_readMove_70 : decode bX2_readMove 70 = .ok (.iload 4, 2) := by decide +kernel
theorem dX2_readMove_72 : decode bX2_readMove 72 = .ok (.invokevirtual 121, 3) := by decide +kernel
theorem dX2_readMove_75 : decode bX2_readMove 75 = .ok (.aload_n 1, 1) := by decide +kernel
theorem dX2_readMove_76 : decode bX2_readMove 76 = .ok (.iload_n 2, 1) := by decide +kernel
theorem dX2_readMove_77 : decode bX2_readMove 77 = .ok (.bipush 7, 2) := by decide +kernel
theorem dX2_readMove_79 : decode bX2_readMove 79 = .ok (.isub, 1) := by decide +kernel
theorem dX2_readMove_80 : decode bX2_readMove 80 = .ok (.iload_n 3, 1) := by decide +kernel
theorem dX2_readMove_81 : decode bX2_readMove 81 = .ok (.invokevirtual 140, 3) := by decide +kernel
theorem dX2_readMove_84 : decode bX2_readMove 84 = .ok (.return_, 1) := by decide +kernel
set_option maxRecDepth 20000 in
set_option maxHeartbeats 4000000 in
theorem cX2_readMove {l : Launch} {k : Kx} {F : Nat} {a1 : Nat} {μ μ' : Mm} (hk : kok k) (e_this : kex k 2 0) (e_a1 : kex k 3 a1) (hf : fX2_readMove F a1 μ = some μ') : MM l k 2 yX2_readMove bX2_readMove 5 none [.ref (kad k 2 0), .ref (kad k 3 a1)] μ none μ' := by
  refine MM.of (lv := [(0, .ref (kad k 2 0)), (1, .ref (kad k 3 a1))]) (plainFor_of_name (by decide)) hk (Nat.le_of_ble_eq_true rfl) rfl (fun z hl hx => ?_)
  subst hl
  have hx : Ok z k bX2_readMove 5 "RopeDance$Reader" none 2 (0, 0) := hx
  have L75 : ∀ (v1 : Nat) (v2 : Int32) (v3 : Int32) (μ : Mm) (e_v1 : kex k 3 v1), fX2_readMove_L75 F v1 v2 v3 μ = some μ' → Gw z k 5 (k, (0, 0), none, none, μ') (0, 0) 75 μ [(1, .ref (kad k 3 v1)), (2, .int v2), (3, .int v3)] [] := by
    intro  v1 v2 v3 μ e_v1 hf
    unfold fX2_readMove_L75 at hf
    refine r_aloadn hx 0 rfl rfl dX2_readMove_75 ?_
    refine r_iloadn hx 1 rfl rfl dX2_readMove_76 ?_
    refine r_bipush hx cb_7 dX2_readMove_77 ?_
    refine r_isub hx dX2_readMove_79 ?_
    refine r_iloadn hx 2 rfl rfl dX2_readMove_80 ?_
    obtain ⟨μ12, c11, hf⟩ := f_bd1 hf
    refine r_callV hx (As := [.int (v2 - 7), .int v3]) (rest := []) (st1 := []) (c := 3) (i := v1) (TT := T3) (N := 4) MK_X3_add rfl wi_X3_add we_X3_add wm_X2_140 ⟨Nat.le_refl _, Nat.le_refl _⟩ (cX3_add hk e_v1 c11) e_v1 (Nat.le_of_ble_eq_true rfl) rfl rfl (Nat.le_of_ble_eq_true rfl) rfl dX2_readMove_81 (fun hb13 => ?_)
    exact r_vret hx hf dX2_readMove_84
  have L68 : ∀ (v1 : Nat) (v2 : Int32) (v3 : Int32) (v4 : Int32) (μ : Mm) (e_v0 : kex k 2 0) (e_v1 : kex k 3 v1), fX2_readMove_L68 F v1 v2 v3 v4 μ = some μ' → Gw z k 5 (k, (0, 0), none, none, μ') (0, 0) 68 μ [(0, .ref (kad k 2 0)), (1, .ref (kad k 3 v1)), (2, .int v2), (3, .int v3), (4, .int v4)] [] := by
    intro  v1 v2 v3 v4 μ e_v0 e_v1 hf
    unfold fX2_readMove_L68 at hf
    refine r_aloadn hx 0 rfl rfl dX2_readMove_68 ?_
    refine r_iconst hx ci_5 dX2_readMove_69 ?_
    refine r_iload hx 4 rfl dX2_readMove_70 ?_
    obtain ⟨μ21, c20, hf⟩ := f_bd1 hf
    refine r_callV hx (As := [.int 5, .int v4]) (rest := []) (st1 := []) (c := 2) (i := 0) (TT := T2) (N := 10) MK_X2_suspect rfl wi_X2_suspect we_X2_suspect wm_X2_121 ⟨Nat.le_refl _, Nat.le_refl _⟩ (cX2_suspect hk e_v0 c20) e_v0 (Nat.le_of_ble_eq_true rfl) rfl rfl (Nat.le_of_ble_eq_true rfl) rfl dX2_readMove_72 (fun hb22 => ?_)
    refine r_sub [1, 2, 3] rfl ?_
    exact L75  v1 v2 v3 μ21 e_v1 hf
  unfold fX2_readMove at hf
  refine r_aloadn hx 0 rfl rfl dX2_readMove_0 ?_
  refine r_getR hx (c' := 7) (i' := 0) FK2_2 e_this rfl wf_X2_9 dX2_readMove_1 (fun e1 => ?_)
  refine r_getI hx FK7_2 e1 wf_X2_53 dX2_readMove_4 ?_
  refine r_istoren (lv' := [(2, .int (gi μ 7 0 2)), (0, .ref (kad k 2 0)), (1, .ref (kad k 3 a1))]) hx rfl (Nat.le_of_ble_eq_true rfl) rfl dX2_readMove_7 ?_
  refine r_iconst hx ci_0 dX2_readMove_8 ?_
  refine r_istoren (lv' := [(3, .int 0), (2, .int (gi μ 7 0 2)), (0, .ref (kad k 2 0)), (1, .ref (kad k 3 a1))]) hx rfl (Nat.le_of_ble_eq_true rfl) rfl dX2_readMove_9 ?_
  refine r_aloadn hx 3 rfl rfl dX2_readMove_10 ?_
  obtain ⟨r4, μ3, c2, hf⟩ := f_bd2 hf
  refine r_callV hx (As := []) (rest := []) (st1 := [.int r4]) (c := 3) (i := a1) (TT := T3) (N := 4) MK_X3_isFull rfl wi_X3_isFull we_X3_isFull wm_X2_133 ⟨Nat.le_refl _, Nat.le_refl _⟩ (cX3_isFull hk e_a1 c2) e_a1 (Nat.le_of_ble_eq_true rfl) rfl rfl (Nat.le_of_ble_eq_true rfl) rfl dX2_readMove_11 (fun hb5 => ?_)
  refine r_ifeq (tgt := 23) hx rfl dX2_readMove_14 (fun q6 => ?_) (fun q6 => ?_)
  · have hf := (f_ite hf).1 q6
    refine r_aloadn hx 2 rfl rfl dX2_readMove_23 ?_
    refine r_iloadn hx 1 rfl rfl dX2_readMove_24 ?_
    obtain ⟨μ8, c7, hf⟩ := f_bd1 hf
    refine r_callV hx (As := [.int (gi μ 7 0 2)]) (rest := []) (st1 := []) (c := 2) (i := 0) (TT := T2) (N := 10) MK_X2_take rfl wi_X2_take we_X2_take wm_X2_91 ⟨Nat.le_refl _, Nat.le_refl _⟩ (cX2_take hk e_this c7) e_this (Nat.le_of_ble_eq_true rfl) rfl rfl (Nat.le_of_ble_eq_true rfl) rfl dX2_readMove_25 (fun hb9 => ?_)
    refine r_iloadn hx 1 rfl rfl dX2_readMove_28 ?_
    refine r_bipush hx cb_9 dX2_readMove_29 ?_
    refine r_iceq (tgt := 75) hx rfl dX2_readMove_31 (fun q10 => ?_) (fun q10 => ?_)
    · have hf := (f_ite hf).1 q10
      refine r_sub [3, 1, 0] rfl ?_
      exact L75  a1 (gi μ 7 0 2) 0 μ8 e_a1 hf
    · have hf := (f_ite hf).2 q10
      refine r_aloadn hx 2 rfl rfl dX2_readMove_34 ?_
      refine r_getR hx (c' := 7) (i' := 0) FK2_2 e_this rfl wf_X2_9 dX2_readMove_35 (fun e14 => ?_)
      refine r_getI hx FK7_3 e14 wf_X2_60 dX2_readMove_38 ?_
      refine r_istore (lv' := [(4, .int (gi μ8 7 0 3)), (3, .int 0), (2, .int (gi μ 7 0 2)), (0, .ref (kad k 2 0)), (1, .ref (kad k 3 a1))]) hx (Nat.le_of_ble_eq_true rfl) rfl dX2_readMove_41 ?_
      refine r_aloadn hx 3 rfl rfl dX2_readMove_43 ?_
      refine r_getR hx (c' := 7) (i' := 0) FK2_2 e_this rfl wf_X2_9 dX2_readMove_44 (fun e15 => ?_)
      refine r_getI hx FK7_4 e15 wf_X2_137 dX2_readMove_47 ?_
      refine r_istoren (lv' := [(3, .int (gi μ8 7 0 4)), (4, .int (gi μ8 7 0 3)), (2, .int (gi μ 7 0 2)), (0, .ref (kad k 2 0)), (1, .ref (kad k 3 a1))]) hx rfl (Nat.le_of_ble_eq_true rfl) rfl dX2_readMove_50 ?_
      refine r_aloadn hx 3 rfl rfl dX2_readMove_51 ?_
      refine r_bipush hx cb_23 dX2_readMove_52 ?_
      obtain ⟨μ17, c16, hf⟩ := f_bd1 hf
      refine r_callV hx (As := [.int 23]) (rest := []) (st1 := []) (c := 2) (i := 0) (TT := T2) (N := 10) MK_X2_take rfl wi_X2_take we_X2_take wm_X2_91 ⟨Nat.le_refl _, Nat.le_refl _⟩ (cX2_take hk e_this c16) e_this (Nat.le_of_ble_eq_true rfl) rfl rfl (Nat.le_of_ble_eq_true rfl) rfl dX2_readMove_54 (fun hb18 => ?_)
      refine r_iloadn hx 0 rfl rfl dX2_readMove_57 ?_
      refine r_iconst hx ci_1 dX2_readMove_58 ?_
      refine r_iclt (tgt := 68) hx rfl dX2_readMove_59 (fun q19 => ?_) (fun q19 => ?_)
      · have hf := (f_ite hf).1 q19
        refine r_sub [3, 4, 2, 0, 1] rfl ?_
        exact L68  a1 (gi μ 7 0 2) (gi μ8 7 0 4) (gi μ8 7 0 3) μ17 e_this e_a1 hf
      · have hf := (f_ite hf).2 q19
        refine r_iloadn hx 0 rfl rfl dX2_readMove_62 ?_
        refine r_bipush hx cb_9 dX2_readMove_63 ?_
        refine r_icle (tgt := 75) hx rfl dX2_readMove_65 (fun q23 => ?_) (fun q23 => ?_)
        · have hf := (f_ite hf).1 q23
          refine r_sub [4, 2, 0] rfl ?_
          exact L75  a1 (gi μ 7 0 2) (gi μ8 7 0 4) μ17 e_a1 hf
        · have hf := (f_ite hf).2 q23
          refine r_sub [3, 4, 2, 0, 1] rfl ?_
          exact L68  a1 (gi μ 7 0 2) (gi μ8 7 0 4) (gi μ8 7 0 3) μ17 e_this e_a1 hf
  · have hf := (f_ite hf).2 q6
    refine r_aloadn hx 2 rfl rfl dX2_readMove_17 ?_
    refine r_iconst hx ci_2 dX2_readMove_18 ?_
    obtain ⟨μ25, c24, hf⟩ := f_bd1 hf
    refine r_callV hx (As := [.int 2]) (rest := []) (st1 := []) (c := 2) (i := 0) (TT := T2) (N := 10) MK_X2_fail rfl wi_X2_fail we_X2_fail wm_X2_65 ⟨Nat.le_refl _, Nat.le_refl _⟩ (cX2_fail hk e_this c24) e_this (Nat.le_of_ble_eq_true rfl) rfl rfl (Nat.le_of_ble_eq_true rfl) rfl dX2_readMove_19 (fun hb26 => ?_)
    exact r_vret hx hf dX2_readMove_22
theorem dX2_suspectName_0 : decode bX2_suspectName 0 = .ok (.aload_n 0, 1) := by decide +kernel
theorem dX2_suspectName_1 : decode bX2_suspectName 1 = .ok (.getfield 15, 3) := by decide +kernel
theorem dX2_suspectName_4 : decode bX2_suspectName 4 = .ok (.lload_n 1, 1) := by decide +kernel
theorem dX2_suspectName_5 : decode bX2_suspectName 5 = .ok (.invokevirtual 125, 3) := by decide +kernel
theorem dX2_suspectName_8 : decode bX2_suspectName 8 = .ok (.ifCond .eq 9, 3) := by decide +kernel
theorem dX2_suspectName_11 : decode bX2_suspectName 11 = .ok (.aload_n 0, 1) := by decide +kernel
theorem dX2_suspectName_12 : decode bX2_suspectName 12 = .ok (.iconst 3, 1) := by decide +kernel
theorem dX2_suspectName_13 : decode bX2_suspectName 13 = .ok (.iload_n 3, 1) := by decide +kernel
theorem dX2_suspectName_14 : decode bX2_suspectName 14 = .ok (.invokevirtual 121, 3) := by decide +kernel
theorem dX2_suspectName_17 : decode bX2_suspectName 17 = .ok (.aload_n 0, 1) := by decide +kernel
theorem dX2_suspectName_18 : decode bX2_suspectName 18 = .ok (.getfield 15, 3) := by decide +kernel
theorem dX2_suspectName_21 : decode bX2_suspectName 21 = .ok (.lload_n 1, 1) := by decide +kernel
theorem dX2_suspectName_22 : decode bX2_suspectName 22 = .ok (.invokevirtual 129, 3) := by decide +kernel
theorem dX2_suspectName_25 : decode bX2_suspectName 25 = .ok (.return_, 1) := by decide +kernel
set_option maxRecDepth 20000 in
set_option maxHeartbeats 4000000 in
theorem cX2_suspectName {l : Launch} {k : Kx} {F : Nat} {a1 : Int64} {a3 : Int32} {μ μ' : Mm} (hk : kok k) (e_this : kex k 2 0) (hf : fX2_suspectName F a1 a3 μ = some μ') : MM l k 1 yX2_suspectName bX2_suspectName 4 none [.ref (kad k 2 0), .long a1, .int a3] μ none μ' := by
  refine MM.of (lv := [(0, .ref (kad k 2 0)), (1, .long a1), (3, .int a3)]) (plainFor_of_name (by decide)) hk (Nat.le_of_ble_eq_true rfl) rfl (fun z hl hx => ?_)
  subst hl
  have hx : Ok z k bX2_suspectName 4 "RopeDance$Reader" none 1 (0, 0) := hx
  have L17 : ∀ (v1 : Int64) (μ : Mm) (e_v0 : kex k 2 0), fX2_suspectName_L17 F v1 μ = some μ' → Gw z k 4 (k, (0, 0), none, none, μ') (0, 0) 17 μ [(0, .ref (kad k 2 0)), (1, .long v1)] [] := by
    intro  v1 μ e_v0 hf
    unfold fX2_suspectName_L17 at hf
    refine r_aloadn hx 0 rfl rfl dX2_suspectName_17 ?_
    refine r_getT hx FK2_3 e_v0 (by decide) wf_X2_15 dX2_suspectName_18 (fun e7 => ?_)
    refine r_lloadn hx 1 rfl rfl dX2_suspectName_21 ?_
    obtain ⟨μ9, c8, hf⟩ := f_bd1 hf
    refine r_callV hx (As := [.long v1]) (rest := []) (st1 := []) (c := 8) (i := (tx (gi μ 2 0 3))) (TT := T8) (N := 13) MK_X8_addName rfl wi_X8_addName we_X8_addName wm_X2_129 ⟨Nat.le_refl _, Nat.le_refl _⟩ (cX8_addName hk e7 c8) e7 (Nat.le_of_ble_eq_true rfl) rfl rfl (Nat.le_of_ble_eq_true rfl) rfl dX2_suspectName_22 (fun hb10 => ?_)
    exact r_vret hx hf dX2_suspectName_25
  unfold fX2_suspectName at hf
  refine r_aloadn hx 0 rfl rfl dX2_suspectName_0 ?_
  refine r_getT hx FK2_3 e_this (by decide) wf_X2_15 dX2_suspectName_1 (fun e1 => ?_)
  refine r_lloadn hx 1 rfl rfl dX2_suspectName_4 ?_
  obtain ⟨r4, μ3, c2, hf⟩ := f_bd2 hf
  refine r_callV hx (As := [.long a1]) (rest := []) (st1 := [.int r4]) (c := 8) (i := (tx (gi μ 2 0 3))) (TT := T8) (N := 13) MK_X8_isTold rfl wi_X8_isTold we_X8_isTold wm_X2_125 ⟨Nat.le_refl _, Nat.le_refl _⟩ (cX8_isTold hk e1 c2) e1 (Nat.le_of_ble_eq_true rfl) rfl rfl (Nat.le_of_ble_eq_true rfl) rfl dX2_suspectName_5 (fun hb5 => ?_)
  refine r_ifeq (tgt := 17) hx rfl dX2_suspectName_8 (fun q6 => ?_) (fun q6 => ?_)
  · have hf := (f_ite hf).1 q6
    refine r_sub [0, 1] rfl ?_
    exact L17  a1 μ3 e_this hf
  · have hf := (f_ite hf).2 q6
    refine r_aloadn hx 0 rfl rfl dX2_suspectName_11 ?_
    refine r_iconst hx ci_3 dX2_suspectName_12 ?_
    refine r_iloadn hx 2 rfl rfl dX2_suspectName_13 ?_
    obtain ⟨μ12, c11, hf⟩ := f_bd1 hf
    refine r_callV hx (As := [.int 3, .int a3]) (rest := []) (st1 := []) (c := 2) (i := 0) (TT := T2) (N := 10) MK_X2_suspect rfl wi_X2_suspect we_X2_suspect wm_X2_121 ⟨Nat.le_refl _, Nat.le_refl _⟩ (cX2_suspect hk e_this c11) e_this (Nat.le_of_ble_eq_true rfl) rfl rfl (Nat.le_of_ble_eq_true rfl) rfl dX2_suspectName_14 (fun hb13 => ?_)
    refine r_sub [0, 1] rfl ?_
    exact L17  a1 μ12 e_this hf
theorem dX2_readRow_0 : decode bX2_readRow 0 = .ok (.aload_n 2, 1) := by decide +kernel
theorem dX2_readRow_1 : decode bX2_readRow 1 = .ok (.ifnonnull 9, 3) := by decide +kernel
theorem dX2_readRow_4 : decode bX2_readRow 4 = .ok (.aload_n 0, 1) := by decide +kernel
theorem dX2_readRow_5 : decode bX2_readRow 5 = .ok (.iconst 2, 1) := by decide +kernel
theorem dX2_readRow_6 : decode bX2_readRow 6 = .ok (.invokevirtual 65, 3) := by decide +kernel
theorem dX2_readRow_9 : decode bX2_readRow 9 = .ok (.return_, 1) := by decide +kernel
set_option maxRecDepth 20000 in
set_option maxHeartbeats 4000000 in
theorem cX2_readRowN {l : Launch} {k : Kx} {F : Nat} {a1 : Int32} {μ μ' : Mm} (hk : kok k) (e_this : kex k 2 0) (hf : fX2_readRowN F a1 μ = some μ') : MM l k 3 yX2_readRow bX2_readRow 7 none [.ref (kad k 2 0), .int a1, .null] μ none μ' := by
  refine MM.of (lv := [(0, .ref (kad k 2 0)), (1, .int a1), (2, .null)]) (plainFor_of_name (by decide)) hk (Nat.le_of_ble_eq_true rfl) rfl (fun z hl hx => ?_)
  subst hl
  have hx : Ok z k bX2_readRow 7 "RopeDance$Reader" none 3 (0, 0) := hx
  unfold fX2_readRowN at hf
  refine r_aloadnN hx 2 rfl rfl dX2_readRow_0 ?_
  refine r_nonnullN hx dX2_readRow_1 ?_
  refine r_aloadn hx 0 rfl rfl dX2_readRow_4 ?_
  refine r_iconst hx ci_2 dX2_readRow_5 ?_
  obtain ⟨μ2, c1, hf⟩ := f_bd1 hf
  refine r_callV hx (As := [.int 2]) (rest := []) (st1 := []) (c := 2) (i := 0) (TT := T2) (N := 10) MK_X2_fail rfl wi_X2_fail we_X2_fail wm_X2_65 ⟨Nat.le_refl _, Nat.le_refl _⟩ (cX2_fail hk e_this c1) e_this (Nat.le_of_ble_eq_true rfl) rfl rfl (Nat.le_of_ble_eq_true rfl) rfl dX2_readRow_6 (fun hb3 => ?_)
  exact r_vret hx hf dX2_readRow_9
theorem dX2_readRow_10 : decode bX2_readRow 10 = .ok (.aload_n 0, 1) := by decide +kernel
theorem dX2_readRow_11 : decode bX2_readRow 11 = .ok (.iload_n 1, 1) := by decide +kernel
theorem dX2_readRow_12 : decode bX2_readRow 12 = .ok (.invokevirtual 91, 3) := by decide +kernel
theorem dX2_readRow_15 : decode bX2_readRow 15 = .ok (.aload_n 0, 1) := by decide +kernel
theorem dX2_readRow_16 : decode bX2_readRow 16 = .ok (.getfield 9, 3) := by decide +kernel
theorem dX2_readRow_19 : decode bX2_readRow 19 = .ok (.getfield 60, 3) := by decide +kernel
theorem dX2_readRow_22 : decode bX2_readRow 22 = .ok (.istore_n 3, 1) := by decide +kernel
theorem dX2_readRow_23 : decode bX2_readRow 23 = .ok (.aload_n 0, 1) := by decide +kernel
theorem dX2_readRow_24 : decode bX2_readRow 24 = .ok (.getfield 9, 3) := by decide +kernel
theorem dX2_readRow_27 : decode bX2_readRow 27 = .ok (.getfield 94, 3) := by decide +kernel
theorem dX2_readRow_30 : decode bX2_readRow 30 = .ok (.lstore 4, 2) := by decide +kernel
theorem dX2_readRow_32 : decode bX2_readRow 32 = .ok (.aload_n 0, 1) := by decide +kernel
theorem dX2_readRow_33 : decode bX2_readRow 33 = .ok (.bipush 22, 2) := by decide +kernel
theorem dX2_readRow_35 : decode bX2_readRow 35 = .ok (.invokevirtual 91, 3) := by decide +kernel
theorem dX2_readRow_38 : decode bX2_readRow 38 = .ok (.iconst 0, 1) := by decide +kernel
theorem dX2_readRow_39 : decode bX2_readRow 39 = .ok (.istore 6, 2) := by decide +kernel
theorem dX2_readRow_41 : decode bX2_readRow 41 = .ok (.iload 6, 2) := by decide +kernel
theorem dX2_readRow_43 : decode bX2_readRow 43 = .ok (.bipush 8, 2) := by decide +kernel
theorem dX2_readRow_45 : decode bX2_readRow 45 = .ok (.if_icmp .gt 34, 3) := by decide +kernel
theorem dX2_readRow_48 : decode bX2_readRow 48 = .ok (.aload_n 0, 1) := by decide +kernel
theorem dX2_readRow_49 : decode bX2_readRow 49 = .ok (.getfield 34, 3) := by decide +kernel
theorem dX2_readRow_52 : decode bX2_readRow 52 = .ok (.ifCond .ne 27, 3) := by decide +kernel
theorem dX2_readRow_55 : decode bX2_readRow 55 = .ok (.aload_n 0, 1) := by decide +kernel
theorem dX2_readRow_56 : decode bX2_readRow 56 = .ok (.getfield 9, 3) := by decide +kernel
theorem dX2_readRow_59 : decode bX2_readRow 59 = .ok (.getfield 53, 3) := by decide +kernel
theorem dX2_readRow_62 : decode bX2_readRow 62 = .ok (.invokestatic 100, 3) := by decide +kernel
theorem dX2_readRow_65 : decode bX2_readRow 65 = .ok (.ifCond .eq 14, 3) := by decide +kernel
theorem dX2_readRow_68 : decode bX2_readRow 68 = .ok (.aload_n 0, 1) := by decide +kernel
theorem dX2_readRow_69 : decode bX2_readRow 69 = .ok (.aload_n 2, 1) := by decide +kernel
theorem dX2_readRow_70 : decode bX2_readRow 70 = .ok (.invokevirtual 103, 3) := by decide +kernel
theorem dX2_readRow_73 : decode bX2_readRow 73 = .ok (.iinc 6 1, 3) := by decide +kernel
theorem dX2_readRow_76 : decode bX2_readRow 76 = .ok (.goto (-35), 3) := by decide +kernel
theorem dX2_readRow_79 : decode bX2_readRow 79 = .ok (.aload_n 0, 1) := by decide +kernel
theorem dX2_readRow_80 : decode bX2_readRow 80 = .ok (.bipush 24, 2) := by decide +kernel
theorem dX2_readRow_82 : decode bX2_readRow 82 = .ok (.invokevirtual 91, 3) := by decide +kernel
theorem dX2_readRow_85 : decode bX2_readRow 85 = .ok (.aload_n 0, 1) := by decide +kernel
theorem dX2_readRow_86 : decode bX2_readRow 86 = .ok (.getfield 34, 3) := by decide +kernel
theorem dX2_readRow_89 : decode bX2_readRow 89 = .ok (.ifCond .ne 43, 3) := by decide +kernel
theorem dX2_readRow_92 : decode bX2_readRow 92 = .ok (.aload_n 0, 1) := by decide +kernel
theorem dX2_readRow_93 : decode bX2_readRow 93 = .ok (.lload 4, 2) := by decide +kernel
theorem dX2_readRow_95 : decode bX2_readRow 95 = .ok (.iload_n 3, 1) := by decide +kernel
theorem dX2_readRow_96 : decode bX2_readRow 96 = .ok (.invokevirtual 107, 3) := by decide +kernel
theorem dX2_readRow_99 : decode bX2_readRow 99 = .ok (.aload_n 0, 1) := by decide +kernel
theorem dX2_readRow_100 : decode bX2_readRow 100 = .ok (.getfield 26, 3) := by decide +kernel
theorem dX2_readRow_103 : decode bX2_readRow 103 = .ok (.invokevirtual 111, 3) := by decide +kernel
theorem dX2_readRow_106 : decode bX2_readRow 106 = .ok (.iload_n 1, 1) := by decide +kernel
theorem dX2_readRow_107 : decode bX2_readRow 107 = .ok (.ifCond .ne 25, 3) := by decide +kernel
theorem dX2_readRow_110 : decode bX2_readRow 110 = .ok (.aload_n 2, 1) := by decide +kernel
theorem dX2_readRow_111 : decode bX2_readRow 111 = .ok (.aload_n 0, 1) := by decide +kernel
theorem dX2_readRow_112 : decode bX2_readRow 112 = .ok (.getfield 26, 3) := by decide +kernel
theorem dX2_readRow_115 : decode bX2_readRow 115 = .ok (.aload_n 2, 1) := by decide +kernel
theorem dX2_readRow_116 : decode bX2_readRow 116 = .ok (.getfield 114, 3) := by decide +kernel
theorem dX2_readRow_119 : decode bX2_readRow 119 = .ok (.invokevirtual 117, 3) := by decide +kernel
theorem dX2_readRow_122 : decode bX2_readRow 122 = .ok (.ifCond .ne 10, 3) := by decide +kernel
theorem dX2_readRow_125 : decode bX2_readRow 125 = .ok (.aload_n 0, 1) := by decide +kernel
theorem dX2_readRow_126 : decode bX2_readRow 126 = .ok (.bipush 6, 2) := by decide +kernel
theorem dX2_readRow_128 : decode bX2_readRow 128 = .ok (.iload_n 3, 1) := by decide +kernel
theorem dX2_readRow_129 : decode bX2_readRow 129 = .ok (.invokevirtual 121, 3) := by decide +kernel
theorem dX2_readRow_132 : decode bX2_readRow 132 = .ok (.return_, 1) := by decide +kernel
set_option maxRecDepth 20000 in
set_option maxHeartbeats 4000000 in
theorem cX2_readRowS {l : Launch} {k : Kx} {F : Nat} {a1 : Int32} {a2 : Nat} {μ μ' : Mm} (hk : kok k) (e_this : kex k 2 0) (e_a2 : kex k 3 a2) (hf : fX2_readRowS F a1 a2 μ = some μ') : MM l k 3 yX2_readRow bX2_readRow 7 none [.ref (kad k 2 0), .int a1, .ref (kad k 3 a2)] μ none μ' := by
  refine MM.of (lv := [(0, .ref (kad k 2 0)), (1, .int a1), (2, .ref (kad k 3 a2))]) (plainFor_of_name (by decide)) hk (Nat.le_of_ble_eq_true rfl) rfl (fun z hl hx => ?_)
  subst hl
  have hx : Ok z k bX2_readRow 7 "RopeDance$Reader" none 3 (0, 0) := hx
  have L79 : ∀ (v1 : Int32) (v2 : Nat) (v3 : Int32) (v4 : Int64) (μ : Mm) (e_v0 : kex k 2 0) (e_v2 : kex k 3 v2), fX2_readRowS_L79 F v1 v2 v3 v4 μ = some μ' → Gw z k 7 (k, (0, 0), none, none, μ') (0, 0) 79 μ [(0, .ref (kad k 2 0)), (1, .int v1), (2, .ref (kad k 3 v2)), (3, .int v3), (4, .long v4)] [] := by
    intro  v1 v2 v3 v4 μ e_v0 e_v2 hf
    unfold fX2_readRowS_L79 at hf
    refine r_aloadn hx 0 rfl rfl dX2_readRow_79 ?_
    refine r_bipush hx cb_24 dX2_readRow_80 ?_
    obtain ⟨μ11, c10, hf⟩ := f_bd1 hf
    refine r_callV hx (As := [.int 24]) (rest := []) (st1 := []) (c := 2) (i := 0) (TT := T2) (N := 10) MK_X2_take rfl wi_X2_take we_X2_take wm_X2_91 ⟨Nat.le_refl _, Nat.le_refl _⟩ (cX2_take hk e_v0 c10) e_v0 (Nat.le_of_ble_eq_true rfl) rfl rfl (Nat.le_of_ble_eq_true rfl) rfl dX2_readRow_82 (fun hb12 => ?_)
    refine r_aloadn hx 0 rfl rfl dX2_readRow_85 ?_
    refine r_getI hx FK2_0 e_v0 wf_X2_34 dX2_readRow_86 ?_
    refine r_ifne (tgt := 132) hx rfl dX2_readRow_89 (fun q13 => ?_) (fun q13 => ?_)
    · have hf := (f_ite hf).2 q13
      exact r_vret hx hf dX2_readRow_132
    · have hf := (f_ite hf).1 q13
      refine r_aloadn hx 0 rfl rfl dX2_readRow_92 ?_
      refine r_lload hx 4 rfl dX2_readRow_93 ?_
      refine r_iloadn hx 3 rfl rfl dX2_readRow_95 ?_
      obtain ⟨μ15, c14, hf⟩ := f_bd1 hf
      refine r_callV hx (As := [.long v4, .int v3]) (rest := []) (st1 := []) (c := 2) (i := 0) (TT := T2) (N := 10) MK_X2_suspectName rfl wi_X2_suspectName we_X2_suspectName wm_X2_107 ⟨Nat.le_refl _, Nat.le_refl _⟩ (cX2_suspectName hk e_v0 c14) e_v0 (Nat.le_of_ble_eq_true rfl) rfl rfl (Nat.le_of_ble_eq_true rfl) rfl dX2_readRow_96 (fun hb16 => ?_)
      refine r_aloadn hx 0 rfl rfl dX2_readRow_99 ?_
      refine r_getR hx (c' := 5) (i' := 7) FK2_9 e_v0 rfl wf_X2_26 dX2_readRow_100 (fun e17 => ?_)
      obtain ⟨μ19, c18, hf⟩ := f_bd1 hf
      refine r_callV hx (As := []) (rest := []) (st1 := []) (c := 5) (i := 7) (TT := T5) (N := 4) MK_X5_letGo rfl wi_X5_letGo we_X5_letGo wm_X2_111 ⟨Nat.le_refl _, Nat.le_refl _⟩ (cX5_letGo hk e17 c18) e17 (Nat.le_of_ble_eq_true rfl) rfl rfl (Nat.le_of_ble_eq_true rfl) rfl dX2_readRow_103 (fun hb20 => ?_)
      refine r_iloadn hx 1 rfl rfl dX2_readRow_106 ?_
      refine r_ifne (tgt := 132) hx rfl dX2_readRow_107 (fun q21 => ?_) (fun q21 => ?_)
      · have hf := (f_ite hf).2 q21
        exact r_vret hx hf dX2_readRow_132
      · have hf := (f_ite hf).1 q21
        refine r_aloadn hx 2 rfl rfl dX2_readRow_110 ?_
        refine r_aloadn hx 0 rfl rfl dX2_readRow_111 ?_
        refine r_getR hx (c' := 5) (i' := 7) FK2_9 e_v0 rfl wf_X2_26 dX2_readRow_112 (fun e22 => ?_)
        refine r_aloadn hx 2 rfl rfl dX2_readRow_115 ?_
        refine r_getI hx FK3_0 e_v2 wf_X2_114 dX2_readRow_116 ?_
        obtain ⟨r25, μ24, c23, hf⟩ := f_bd2 hf
        refine r_callV hx (As := [.ref (kad k 5 7), .int (gi μ19 3 v2 0)]) (rest := []) (st1 := [.int r25]) (c := 3) (i := v2) (TT := T3) (N := 4) MK_X3_makes rfl wi_X3_makes we_X3_makes wm_X2_117 ⟨Nat.le_refl _, Nat.le_refl _⟩ (cX3_makes hk e_v2 e22 c23) e_v2 (Nat.le_of_ble_eq_true rfl) rfl rfl (Nat.le_of_ble_eq_true rfl) rfl dX2_readRow_119 (fun hb26 => ?_)
        refine r_ifne (tgt := 132) hx rfl dX2_readRow_122 (fun q27 => ?_) (fun q27 => ?_)
        · have hf := (f_ite hf).2 q27
          exact r_vret hx hf dX2_readRow_132
        · have hf := (f_ite hf).1 q27
          refine r_aloadn hx 0 rfl rfl dX2_readRow_125 ?_
          refine r_bipush hx cb_6 dX2_readRow_126 ?_
          refine r_iloadn hx 3 rfl rfl dX2_readRow_128 ?_
          obtain ⟨μ29, c28, hf⟩ := f_bd1 hf
          refine r_callV hx (As := [.int 6, .int v3]) (rest := []) (st1 := []) (c := 2) (i := 0) (TT := T2) (N := 10) MK_X2_suspect rfl wi_X2_suspect we_X2_suspect wm_X2_121 ⟨Nat.le_refl _, Nat.le_refl _⟩ (cX2_suspect hk e_v0 c28) e_v0 (Nat.le_of_ble_eq_true rfl) rfl rfl (Nat.le_of_ble_eq_true rfl) rfl dX2_readRow_129 (fun hb30 => ?_)
          exact r_vret hx hf dX2_readRow_132
  have L41 : ∀ (n : Nat) (v1 : Int32) (v2 : Nat) (v3 : Int32) (v4 : Int64) (v6 : Int32) (μ : Mm) (e_v0 : kex k 2 0) (e_v2 : kex k 3 v2), fX2_readRowS_L41 F n v1 v2 v3 v4 v6 μ = some μ' → Gw z k 7 (k, (0, 0), none, none, μ') (0, 0) 41 μ [(0, .ref (kad k 2 0)), (1, .int v1), (2, .ref (kad k 3 v2)), (3, .int v3), (4, .long v4), (6, .int v6)] [] := by
    intro  n
    induction n with
    | zero =>
      intro v1 v2 v3 v4 v6 μ e_v0 e_v2 hf
      exact f_no (show (none : Option (Mm)) = _ from hf)
    | succ n ih =>
      intro v1 v2 v3 v4 v6 μ e_v0 e_v2 hf
      rw [fX2_readRowS_L41] at hf
      refine r_iload hx 5 rfl dX2_readRow_41 ?_
      refine r_bipush hx cb_8 dX2_readRow_43 ?_
      refine r_icgt (tgt := 79) hx rfl dX2_readRow_45 (fun q9 => ?_) (fun q9 => ?_)
      · have hf := (f_ite hf).1 q9
        refine r_sub [0, 1, 2, 3, 4] rfl ?_
        exact L79  v1 v2 v3 v4 μ e_v0 e_v2 hf
      · have hf := (f_ite hf).2 q9
        refine r_aloadn hx 0 rfl rfl dX2_readRow_48 ?_
        refine r_getI hx FK2_0 e_v0 wf_X2_34 dX2_readRow_49 ?_
        refine r_ifne (tgt := 79) hx rfl dX2_readRow_52 (fun q31 => ?_) (fun q31 => ?_)
        · have hf := (f_ite hf).2 q31
          refine r_sub [0, 1, 2, 3, 4] rfl ?_
          exact L79  v1 v2 v3 v4 μ e_v0 e_v2 hf
        · have hf := (f_ite hf).1 q31
          refine r_aloadn hx 0 rfl rfl dX2_readRow_55 ?_
          refine r_getR hx (c' := 7) (i' := 0) FK2_2 e_v0 rfl wf_X2_9 dX2_readRow_56 (fun e32 => ?_)
          refine r_getI hx FK7_2 e32 wf_X2_53 dX2_readRow_59 ?_
          obtain ⟨r35, μ34, c33, hf⟩ := f_bd2 hf
          refine r_callS hx (As := [.int (gi μ 7 0 2)]) (rest := []) (st1 := [.int r35]) MK_X2_isMove ws_X2_isMove wm_X2_100 ⟨Nat.le_refl _, Nat.le_refl _⟩ (cX2_isMove hk c33) (Nat.le_of_ble_eq_true rfl) rfl rfl (Nat.le_of_ble_eq_true rfl) rfl dX2_readRow_62 (fun hb36 => ?_)
          refine r_ifeq (tgt := 79) hx rfl dX2_readRow_65 (fun q37 => ?_) (fun q37 => ?_)
          · have hf := (f_ite hf).1 q37
            refine r_sub [0, 1, 2, 3, 4] rfl ?_
            exact L79  v1 v2 v3 v4 μ34 e_v0 e_v2 hf
          · have hf := (f_ite hf).2 q37
            refine r_aloadn hx 0 rfl rfl dX2_readRow_68 ?_
            refine r_aloadn hx 2 rfl rfl dX2_readRow_69 ?_
            obtain ⟨μ39, c38, hf⟩ := f_bd1 hf
            refine r_callV hx (As := [.ref (kad k 3 v2)]) (rest := []) (st1 := []) (c := 2) (i := 0) (TT := T2) (N := 10) MK_X2_readMove rfl wi_X2_readMove we_X2_readMove wm_X2_103 ⟨Nat.le_refl _, Nat.le_refl _⟩ (cX2_readMove hk e_v0 e_v2 c38) e_v0 (Nat.le_of_ble_eq_true rfl) rfl rfl (Nat.le_of_ble_eq_true rfl) rfl dX2_readRow_70 (fun hb40 => ?_)
            refine r_iinc (lv' := [(6, .int (v6 + 1)), (0, .ref (kad k 2 0)), (1, .int v1), (2, .ref (kad k 3 v2)), (3, .int v3), (4, .long v4)]) hx 5 rfl (congrArg (fun y => v6 + y) ci_1) (Nat.le_of_ble_eq_true rfl) rfl dX2_readRow_73 ?_
            refine r_goto (tgt := 41) hx rfl dX2_readRow_76 ?_
            refine r_sub [1, 2, 3, 4, 5, 0] rfl ?_
            exact ih v1 v2 v3 v4 (v6 + 1) μ39 e_v0 e_v2 hf
  unfold fX2_readRowS at hf
  refine r_aloadn hx 2 rfl rfl dX2_readRow_0 ?_
  refine r_nonnullS (tgt := 10) hx rfl dX2_readRow_1 ?_
  refine r_aloadn hx 0 rfl rfl dX2_readRow_10 ?_
  refine r_iloadn hx 1 rfl rfl dX2_readRow_11 ?_
  obtain ⟨μ2, c1, hf⟩ := f_bd1 hf
  refine r_callV hx (As := [.int a1]) (rest := []) (st1 := []) (c := 2) (i := 0) (TT := T2) (N := 10) MK_X2_take rfl wi_X2_take we_X2_take wm_X2_91 ⟨Nat.le_refl _, Nat.le_refl _⟩ (cX2_take hk e_this c1) e_this (Nat.le_of_ble_eq_true rfl) rfl rfl (Nat.le_of_ble_eq_true rfl) rfl dX2_readRow_12 (fun hb3 => ?_)
  refine r_aloadn hx 0 rfl rfl dX2_readRow_15 ?_
  refine r_getR hx (c' := 7) (i' := 0) FK2_2 e_this rfl wf_X2_9 dX2_readRow_16 (fun e4 => ?_)
  refine r_getI hx FK7_3 e4 wf_X2_60 dX2_readRow_19 ?_
  refine r_istoren (lv' := [(3, .int (gi μ2 7 0 3)), (0, .ref (kad k 2 0)), (1, .int a1), (2, .ref (kad k 3 a2))]) hx rfl (Nat.le_of_ble_eq_true rfl) rfl dX2_readRow_22 ?_
  refine r_aloadn hx 1 rfl rfl dX2_readRow_23 ?_
  refine r_getR hx (c' := 7) (i' := 0) FK2_2 e_this rfl wf_X2_9 dX2_readRow_24 (fun e5 => ?_)
  refine r_getL hx FK7_5 e5 wf_X2_94 dX2_readRow_27 ?_
  refine r_lstore (lv' := [(4, .long (gj μ2 7 0 5)), (3, .int (gi μ2 7 0 3)), (0, .ref (kad k 2 0)), (1, .int a1), (2, .ref (kad k 3 a2))]) hx (Nat.le_of_ble_eq_true rfl) rfl dX2_readRow_30 ?_
  refine r_aloadn hx 2 rfl rfl dX2_readRow_32 ?_
  refine r_bipush hx cb_22 dX2_readRow_33 ?_
  obtain ⟨μ7, c6, hf⟩ := f_bd1 hf
  refine r_callV hx (As := [.int 22]) (rest := []) (st1 := []) (c := 2) (i := 0) (TT := T2) (N := 10) MK_X2_take rfl wi_X2_take we_X2_take wm_X2_91 ⟨Nat.le_refl _, Nat.le_refl _⟩ (cX2_take hk e_this c6) e_this (Nat.le_of_ble_eq_true rfl) rfl rfl (Nat.le_of_ble_eq_true rfl) rfl dX2_readRow_35 (fun hb8 => ?_)
  refine r_iconst hx ci_0 dX2_readRow_38 ?_
  refine r_istore (lv' := [(6, .int 0), (4, .long (gj μ2 7 0 5)), (3, .int (gi μ2 7 0 3)), (0, .ref (kad k 2 0)), (1, .int a1), (2, .ref (kad k 3 a2))]) hx (Nat.le_of_ble_eq_true rfl) rfl dX2_readRow_39 ?_
  refine r_sub [3, 4, 5, 2, 1, 0] rfl ?_
  exact L41 F a1 a2 (gi μ2 7 0 3) (gj μ2 7 0 5) 0 μ7 e_this e_a2 hf
theorem dX2_addWaiting_0 : decode bX2_addWaiting 0 = .ok (.aload_n 0, 1) := by decide +kernel
theorem dX2_addWaiting_1 : decode bX2_addWaiting 1 = .ok (.getfield 162, 3) := by decide +kernel
theorem dX2_addWaiting_4 : decode bX2_addWaiting 4 = .ok (.aload_n 0, 1) := by decide +kernel
theorem dX2_addWaiting_5 : decode bX2_addWaiting 5 = .ok (.getfield 19, 3) := by decide +kernel
theorem dX2_addWaiting_8 : decode bX2_addWaiting 8 = .ok (.arraylength, 1) := by decide +kernel
theorem dX2_addWaiting_9 : decode bX2_addWaiting 9 = .ok (.if_icmp .ge 23, 3) := by decide +kernel
theorem dX2_addWaiting_12 : decode bX2_addWaiting 12 = .ok (.aload_n 0, 1) := by decide +kernel
theorem dX2_addWaiting_13 : decode bX2_addWaiting 13 = .ok (.getfield 19, 3) := by decide +kernel
theorem dX2_addWaiting_16 : decode bX2_addWaiting 16 = .ok (.aload_n 0, 1) := by decide +kernel
theorem dX2_addWaiting_17 : decode bX2_addWaiting 17 = .ok (.getfield 162, 3) := by decide +kernel
theorem dX2_addWaiting_20 : decode bX2_addWaiting 20 = .ok (.iload_n 1, 1) := by decide +kernel
theorem dX2_addWaiting_21 : decode bX2_addWaiting 21 = .ok (.iastore, 1) := by decide +kernel
theorem dX2_addWaiting_22 : decode bX2_addWaiting 22 = .ok (.aload_n 0, 1) := by decide +kernel
theorem dX2_addWaiting_23 : decode bX2_addWaiting 23 = .ok (.dup, 1) := by decide +kernel
theorem dX2_addWaiting_24 : decode bX2_addWaiting 24 = .ok (.getfield 162, 3) := by decide +kernel
theorem dX2_addWaiting_27 : decode bX2_addWaiting 27 = .ok (.iconst 1, 1) := by decide +kernel
theorem dX2_addWaiting_28 : decode bX2_addWaiting 28 = .ok (.iadd, 1) := by decide +kernel
theorem dX2_addWaiting_29 : decode bX2_addWaiting 29 = .ok (.putfield 162, 3) := by decide +kernel
theorem dX2_addWaiting_32 : decode bX2_addWaiting 32 = .ok (.return_, 1) := by decide +kernel
set_option maxRecDepth 20000 in
set_option maxHeartbeats 4000000 in
theorem cX2_addWaiting {l : Launch} {k : Kx} {F : Nat} {a1 : Int32} {μ μ' : Mm} (hk : kok k) (e_this : kex k 2 0) (hf : fX2_addWaiting F a1 μ = some μ') : MM l k 0 yX2_addWaiting bX2_addWaiting 2 none [.ref (kad k 2 0), .int a1] μ none μ' := by
  refine MM.of (lv := [(0, .ref (kad k 2 0)), (1, .int a1)]) (plainFor_of_name (by decide)) hk (Nat.le_of_ble_eq_true rfl) rfl (fun z hl hx => ?_)
  subst hl
  have hx : Ok z k bX2_addWaiting 2 "RopeDance$Reader" none 0 (0, 0) := hx
  unfold fX2_addWaiting at hf
  refine r_aloadn hx 0 rfl rfl dX2_addWaiting_0 ?_
  refine r_getI hx FK2_7 e_this wf_X2_162 dX2_addWaiting_1 ?_
  refine r_aloadn hx 0 rfl rfl dX2_addWaiting_4 ?_
  refine r_getR hx (c' := 24) (i' := 0) FK2_6 e_this rfl wf_X2_19 dX2_addWaiting_5 (fun e1 => ?_)
  refine r_alen (v := 32) hx (by decide) (by decide) e1 (by decide) dX2_addWaiting_8 ?_
  refine r_icge (tgt := 32) hx rfl dX2_addWaiting_9 (fun q2 => ?_) (fun q2 => ?_)
  · have hf := (f_ite hf).1 q2
    exact r_vret hx hf dX2_addWaiting_32
  · have hf := (f_ite hf).2 q2
    refine r_aloadn hx 0 rfl rfl dX2_addWaiting_12 ?_
    refine r_getR hx (c' := 24) (i' := 0) FK2_6 e_this rfl wf_X2_19 dX2_addWaiting_13 (fun e3 => ?_)
    refine r_aloadn hx 0 rfl rfl dX2_addWaiting_16 ?_
    refine r_getI hx FK2_7 e_this wf_X2_162 dX2_addWaiting_17 ?_
    refine r_iloadn hx 1 rfl rfl dX2_addWaiting_20 ?_
    obtain ⟨b4, hf⟩ := f_chk hf
    refine r_iast hx (by decide) rfl e3 b4 rfl dX2_addWaiting_21 ?_
    refine r_aloadn hx 0 rfl rfl dX2_addWaiting_22 ?_
    refine r_dup hx rfl dX2_addWaiting_23 ?_
    refine r_getI hx FK2_7 e_this wf_X2_162 dX2_addWaiting_24 ?_
    refine r_iconst hx ci_1 dX2_addWaiting_27 ?_
    refine r_iadd hx dX2_addWaiting_28 ?_
    refine r_putI (ty := .int) hx FK2_7 (fun T N h => by cases h; rfl) e_this wf_X2_162 (by decide +kernel) rfl rfl dX2_addWaiting_29 ?_
    exact r_vret hx hf dX2_addWaiting_32
theorem dX2_readUnit_0 : decode bX2_readUnit 0 = .ok (.iload_n 1, 1) := by decide +kernel
theorem dX2_readUnit_1 : decode bX2_readUnit 1 = .ok (.bipush 31, 2) := by decide +kernel
theorem dX2_readUnit_3 : decode bX2_readUnit 3 = .ok (.if_icmp .ne 41, 3) := by decide +kernel
theorem dX2_readUnit_6 : decode bX2_readUnit 6 = .ok (.aload_n 0, 1) := by decide +kernel
theorem dX2_readUnit_7 : decode bX2_readUnit 7 = .ok (.getfield 165, 3) := by decide +kernel
theorem dX2_readUnit_10 : decode bX2_readUnit 10 = .ok (.bipush 6, 2) := by decide +kernel
theorem dX2_readUnit_12 : decode bX2_readUnit 12 = .ok (.if_icmp .ne 9, 3) := by decide +kernel
theorem dX2_readUnit_15 : decode bX2_readUnit 15 = .ok (.aload_n 0, 1) := by decide +kernel
theorem dX2_readUnit_16 : decode bX2_readUnit 16 = .ok (.iconst 2, 1) := by decide +kernel
theorem dX2_readUnit_17 : decode bX2_readUnit 17 = .ok (.invokevirtual 65, 3) := by decide +kernel
theorem dX2_readUnit_20 : decode bX2_readUnit 20 = .ok (.return_, 1) := by decide +kernel
theorem dX2_readUnit_21 : decode bX2_readUnit 21 = .ok (.aload_n 0, 1) := by decide +kernel
theorem dX2_readUnit_22 : decode bX2_readUnit 22 = .ok (.iload_n 1, 1) := by decide +kernel
theorem dX2_readUnit_23 : decode bX2_readUnit 23 = .ok (.invokevirtual 91, 3) := by decide +kernel
theorem dX2_readUnit_26 : decode bX2_readUnit 26 = .ok (.aload_n 0, 1) := by decide +kernel
theorem dX2_readUnit_27 : decode bX2_readUnit 27 = .ok (.iload_n 1, 1) := by decide +kernel
theorem dX2_readUnit_28 : decode bX2_readUnit 28 = .ok (.invokevirtual 174, 3) := by decide +kernel
theorem dX2_readUnit_31 : decode bX2_readUnit 31 = .ok (.aload_n 0, 1) := by decide +kernel
theorem dX2_readUnit_32 : decode bX2_readUnit 32 = .ok (.dup, 1) := by decide +kernel
theorem dX2_readUnit_33 : decode bX2_readUnit 33 = .ok (.getfield 165, 3) := by decide +kernel
theorem dX2_readUnit_36 : decode bX2_readUnit 36 = .ok (.iconst 1, 1) := by decide +kernel
theorem dX2_readUnit_37 : decode bX2_readUnit 37 = .ok (.iadd, 1) := by decide +kernel
theorem dX2_readUnit_38 : decode bX2_readUnit 38 = .ok (.putfield 165, 3) := by decide +kernel
theorem dX2_readUnit_41 : decode bX2_readUnit 41 = .ok (.goto 56, 3) := by decide +kernel
theorem dX2_readUnit_44 : decode bX2_readUnit 44 = .ok (.iload_n 1, 1) := by decide +kernel
theorem dX2_readUnit_45 : decode bX2_readUnit 45 = .ok (.bipush 13, 2) := by decide +kernel
theorem dX2_readUnit_47 : decode bX2_readUnit 47 = .ok (.if_icmp .lt 30, 3) := by decide +kernel
theorem dX2_readUnit_50 : decode bX2_readUnit 50 = .ok (.iload_n 1, 1) := by decide +kernel
theorem dX2_readUnit_51 : decode bX2_readUnit 51 = .ok (.bipush 21, 2) := by decide +kernel
theorem dX2_readUnit_53 : decode bX2_readUnit 53 = .ok (.if_icmp .gt 24, 3) := by decide +kernel
theorem dX2_readUnit_56 : decode bX2_readUnit 56 = .ok (.aload_n 0, 1) := by decide +kernel
theorem dX2_readUnit_57 : decode bX2_readUnit 57 = .ok (.getfield 15, 3) := by decide +kernel
theorem dX2_readUnit_60 : decode bX2_readUnit 60 = .ok (.iconst (-1), 1) := by decide +kernel
theorem dX2_readUnit_61 : decode bX2_readUnit 61 = .ok (.iload_n 1, 1) := by decide +kernel
theorem dX2_readUnit_62 : decode bX2_readUnit 62 = .ok (.bipush 13, 2) := by decide +kernel
theorem dX2_readUnit_64 : decode bX2_readUnit 64 = .ok (.isub, 1) := by decide +kernel
theorem dX2_readUnit_65 : decode bX2_readUnit 65 = .ok (.isub, 1) := by decide +kernel
theorem dX2_readUnit_66 : decode bX2_readUnit 66 = .ok (.invokevirtual 156, 3) := by decide +kernel
theorem dX2_readUnit_69 : decode bX2_readUnit 69 = .ok (.aload_n 0, 1) := by decide +kernel
theorem dX2_readUnit_70 : decode bX2_readUnit 70 = .ok (.iload_n 1, 1) := by decide +kernel
theorem dX2_readUnit_71 : decode bX2_readUnit 71 = .ok (.invokevirtual 91, 3) := by decide +kernel
theorem dX2_readUnit_74 : decode bX2_readUnit 74 = .ok (.goto 23, 3) := by decide +kernel
theorem dX2_readUnit_77 : decode bX2_readUnit 77 = .ok (.aload_n 0, 1) := by decide +kernel
theorem dX2_readUnit_78 : decode bX2_readUnit 78 = .ok (.getfield 15, 3) := by decide +kernel
theorem dX2_readUnit_81 : decode bX2_readUnit 81 = .ok (.aload_n 0, 1) := by decide +kernel
theorem dX2_readUnit_82 : decode bX2_readUnit 82 = .ok (.getfield 9, 3) := by decide +kernel
theorem dX2_readUnit_85 : decode bX2_readUnit 85 = .ok (.getfield 137, 3) := by decide +kernel
theorem dX2_readUnit_88 : decode bX2_readUnit 88 = .ok (.invokevirtual 156, 3) := by decide +kernel
theorem dX2_readUnit_91 : decode bX2_readUnit 91 = .ok (.aload_n 0, 1) := by decide +kernel
theorem dX2_readUnit_92 : decode bX2_readUnit 92 = .ok (.bipush 23, 2) := by decide +kernel
theorem dX2_readUnit_94 : decode bX2_readUnit 94 = .ok (.invokevirtual 91, 3) := by decide +kernel
theorem dX2_readUnit_97 : decode bX2_readUnit 97 = .ok (.return_, 1) := by decide +kernel
set_option maxRecDepth 20000 in
set_option maxHeartbeats 4000000 in
theorem cX2_readUnit {l : Launch} {k : Kx} {F : Nat} {a1 : Int32} {μ μ' : Mm} (hk : kok k) (e_this : kex k 2 0) (hf : fX2_readUnit F a1 μ = some μ') : MM l k 2 yX2_readUnit bX2_readUnit 2 none [.ref (kad k 2 0), .int a1] μ none μ' := by
  refine MM.of (lv := [(0, .ref (kad k 2 0)), (1, .int a1)]) (plainFor_of_name (by decide)) hk (Nat.le_of_ble_eq_true rfl) rfl (fun z hl hx => ?_)
  subst hl
  have hx : Ok z k bX2_readUnit 2 "RopeDance$Reader" none 2 (0, 0) := hx
  have L77 : ∀ (μ : Mm) (e_v0 : kex k 2 0), fX2_readUnit_L77 F  μ = some μ' → Gw z k 2 (k, (0, 0), none, none, μ') (0, 0) 77 μ [(0, .ref (kad k 2 0))] [] := by
    intro  μ e_v0 hf
    unfold fX2_readUnit_L77 at hf
    refine r_aloadn hx 0 rfl rfl dX2_readUnit_77 ?_
    refine r_getT hx FK2_3 e_v0 (by decide) wf_X2_15 dX2_readUnit_78 (fun e3 => ?_)
    refine r_aloadn hx 0 rfl rfl dX2_readUnit_81 ?_
    refine r_getR hx (c' := 7) (i' := 0) FK2_2 e_v0 rfl wf_X2_9 dX2_readUnit_82 (fun e4 => ?_)
    refine r_getI hx FK7_4 e4 wf_X2_137 dX2_readUnit_85 ?_
    obtain ⟨μ6, c5, hf⟩ := f_bd1 hf
    refine r_callV hx (As := [.int (gi μ 7 0 4)]) (rest := []) (st1 := []) (c := 8) (i := (tx (gi μ 2 0 3))) (TT := T8) (N := 13) MK_X8_addCode rfl wi_X8_addCode we_X8_addCode wm_X2_156 ⟨Nat.le_refl _, Nat.le_refl _⟩ (cX8_addCode hk e3 c5) e3 (Nat.le_of_ble_eq_true rfl) rfl rfl (Nat.le_of_ble_eq_true rfl) rfl dX2_readUnit_88 (fun hb7 => ?_)
    refine r_aloadn hx 0 rfl rfl dX2_readUnit_91 ?_
    refine r_bipush hx cb_23 dX2_readUnit_92 ?_
    obtain ⟨μ9, c8, hf⟩ := f_bd1 hf
    refine r_callV hx (As := [.int 23]) (rest := []) (st1 := []) (c := 2) (i := 0) (TT := T2) (N := 10) MK_X2_take rfl wi_X2_take we_X2_take wm_X2_91 ⟨Nat.le_refl _, Nat.le_refl _⟩ (cX2_take hk e_v0 c8) e_v0 (Nat.le_of_ble_eq_true rfl) rfl rfl (Nat.le_of_ble_eq_true rfl) rfl dX2_readUnit_94 (fun hb10 => ?_)
    exact r_vret hx hf dX2_readUnit_97
  unfold fX2_readUnit at hf
  refine r_iloadn hx 1 rfl rfl dX2_readUnit_0 ?_
  refine r_bipush hx cb_31 dX2_readUnit_1 ?_
  refine r_icne (tgt := 44) hx rfl dX2_readUnit_3 (fun q1 => ?_) (fun q1 => ?_)
  · have hf := (f_ite hf).2 q1
    refine r_iloadn hx 1 rfl rfl dX2_readUnit_44 ?_
    refine r_bipush hx cb_13 dX2_readUnit_45 ?_
    refine r_iclt (tgt := 77) hx rfl dX2_readUnit_47 (fun q2 => ?_) (fun q2 => ?_)
    · have hf := (f_ite hf).1 q2
      refine r_sub [0] rfl ?_
      exact L77   μ e_this hf
    · have hf := (f_ite hf).2 q2
      refine r_iloadn hx 1 rfl rfl dX2_readUnit_50 ?_
      refine r_bipush hx cb_21 dX2_readUnit_51 ?_
      refine r_icgt (tgt := 77) hx rfl dX2_readUnit_53 (fun q11 => ?_) (fun q11 => ?_)
      · have hf := (f_ite hf).1 q11
        refine r_sub [0] rfl ?_
        exact L77   μ e_this hf
      · have hf := (f_ite hf).2 q11
        refine r_aloadn hx 0 rfl rfl dX2_readUnit_56 ?_
        refine r_getT hx FK2_3 e_this (by decide) wf_X2_15 dX2_readUnit_57 (fun e12 => ?_)
        refine r_iconst hx ci_m1 dX2_readUnit_60 ?_
        refine r_iloadn hx 1 rfl rfl dX2_readUnit_61 ?_
        refine r_bipush hx cb_13 dX2_readUnit_62 ?_
        refine r_isub hx dX2_readUnit_64 ?_
        refine r_isub hx dX2_readUnit_65 ?_
        obtain ⟨μ14, c13, hf⟩ := f_bd1 hf
        refine r_callV hx (As := [.int ((-1) - (a1 - 13))]) (rest := []) (st1 := []) (c := 8) (i := (tx (gi μ 2 0 3))) (TT := T8) (N := 13) MK_X8_addCode rfl wi_X8_addCode we_X8_addCode wm_X2_156 ⟨Nat.le_refl _, Nat.le_refl _⟩ (cX8_addCode hk e12 c13) e12 (Nat.le_of_ble_eq_true rfl) rfl rfl (Nat.le_of_ble_eq_true rfl) rfl dX2_readUnit_66 (fun hb15 => ?_)
        refine r_aloadn hx 0 rfl rfl dX2_readUnit_69 ?_
        refine r_iloadn hx 1 rfl rfl dX2_readUnit_70 ?_
        obtain ⟨μ17, c16, hf⟩ := f_bd1 hf
        refine r_callV hx (As := [.int a1]) (rest := []) (st1 := []) (c := 2) (i := 0) (TT := T2) (N := 10) MK_X2_take rfl wi_X2_take we_X2_take wm_X2_91 ⟨Nat.le_refl _, Nat.le_refl _⟩ (cX2_take hk e_this c16) e_this (Nat.le_of_ble_eq_true rfl) rfl rfl (Nat.le_of_ble_eq_true rfl) rfl dX2_readUnit_71 (fun hb18 => ?_)
        refine r_goto (tgt := 97) hx rfl dX2_readUnit_74 ?_
        exact r_vret hx hf dX2_readUnit_97
  · have hf := (f_ite hf).1 q1
    refine r_aloadn hx 0 rfl rfl dX2_readUnit_6 ?_
    refine r_getI hx FK2_8 e_this wf_X2_165 dX2_readUnit_7 ?_
    refine r_bipush hx cb_6 dX2_readUnit_10 ?_
    refine r_icne (tgt := 21) hx rfl dX2_readUnit_12 (fun q19 => ?_) (fun q19 => ?_)
    · have hf := (f_ite hf).2 q19
      refine r_aloadn hx 0 rfl rfl dX2_readUnit_21 ?_
      refine r_iloadn hx 1 rfl rfl dX2_readUnit_22 ?_
      obtain ⟨μ21, c20, hf⟩ := f_bd1 hf
      refine r_callV hx (As := [.int a1]) (rest := []) (st1 := []) (c := 2) (i := 0) (TT := T2) (N := 10) MK_X2_take rfl wi_X2_take we_X2_take wm_X2_91 ⟨Nat.le_refl _, Nat.le_refl _⟩ (cX2_take hk e_this c20) e_this (Nat.le_of_ble_eq_true rfl) rfl rfl (Nat.le_of_ble_eq_true rfl) rfl dX2_readUnit_23 (fun hb22 => ?_)
      refine r_aloadn hx 0 rfl rfl dX2_readUnit_26 ?_
      refine r_iloadn hx 1 rfl rfl dX2_readUnit_27 ?_
      obtain ⟨μ24, c23, hf⟩ := f_bd1 hf
      refine r_callV hx (As := [.int a1]) (rest := []) (st1 := []) (c := 2) (i := 0) (TT := T2) (N := 10) MK_X2_addWaiting rfl wi_X2_addWaiting we_X2_addWaiting wm_X2_174 ⟨Nat.le_refl _, Nat.le_refl _⟩ (cX2_addWaiting hk e_this c23) e_this (Nat.le_of_ble_eq_true rfl) rfl rfl (Nat.le_of_ble_eq_true rfl) rfl dX2_readUnit_28 (fun hb25 => ?_)
      refine r_aloadn hx 0 rfl rfl dX2_readUnit_31 ?_
      refine r_dup hx rfl dX2_readUnit_32 ?_
      refine r_getI hx FK2_8 e_this wf_X2_165 dX2_readUnit_33 ?_
      refine r_iconst hx ci_1 dX2_readUnit_36 ?_
      refine r_iadd hx dX2_readUnit_37 ?_
      refine r_putI (ty := .int) hx FK2_8 (fun T N h => by cases h; rfl) e_this wf_X2_165 (by decide +kernel) rfl rfl dX2_readUnit_38 ?_
      refine r_goto (tgt := 97) hx rfl dX2_readUnit_41 ?_
      exact r_vret hx hf dX2_readUnit_97
    · have hf := (f_ite hf).1 q19
      refine r_aloadn hx 0 rfl rfl dX2_readUnit_15 ?_
      refine r_iconst hx ci_2 dX2_readUnit_16 ?_
      obtain ⟨μ27, c26, hf⟩ := f_bd1 hf
      refine r_callV hx (As := [.int 2]) (rest := []) (st1 := []) (c := 2) (i := 0) (TT := T2) (N := 10) MK_X2_fail rfl wi_X2_fail we_X2_fail wm_X2_65 ⟨Nat.le_refl _, Nat.le_refl _⟩ (cX2_fail hk e_this c26) e_this (Nat.le_of_ble_eq_true rfl) rfl rfl (Nat.le_of_ble_eq_true rfl) rfl dX2_readUnit_17 (fun hb28 => ?_)
      exact r_vret hx hf dX2_readUnit_20
theorem dX2_releaseDownTo_0 : decode bX2_releaseDownTo 0 = .ok (.aload_n 0, 1) := by decide +kernel
theorem dX2_releaseDownTo_1 : decode bX2_releaseDownTo 1 = .ok (.getfield 162, 3) := by decide +kernel
theorem dX2_releaseDownTo_4 : decode bX2_releaseDownTo 4 = .ok (.aload_n 0, 1) := by decide +kernel
theorem dX2_releaseDownTo_5 : decode bX2_releaseDownTo 5 = .ok (.getfield 19, 3) := by decide +kernel
theorem dX2_releaseDownTo_8 : decode bX2_releaseDownTo 8 = .ok (.arraylength, 1) := by decide +kernel
theorem dX2_releaseDownTo_9 : decode bX2_releaseDownTo 9 = .ok (.invokestatic 183, 3) := by decide +kernel
theorem dX2_releaseDownTo_12 : decode bX2_releaseDownTo 12 = .ok (.iconst 1, 1) := by decide +kernel
theorem dX2_releaseDownTo_13 : decode bX2_releaseDownTo 13 = .ok (.isub, 1) := by decide +kernel
theorem dX2_releaseDownTo_14 : decode bX2_releaseDownTo 14 = .ok (.istore_n 2, 1) := by decide +kernel
theorem dX2_releaseDownTo_15 : decode bX2_releaseDownTo 15 = .ok (.iload_n 2, 1) := by decide +kernel
theorem dX2_releaseDownTo_16 : decode bX2_releaseDownTo 16 = .ok (.ifCond .lt 55, 3) := by decide +kernel
theorem dX2_releaseDownTo_19 : decode bX2_releaseDownTo 19 = .ok (.aload_n 0, 1) := by decide +kernel
theorem dX2_releaseDownTo_20 : decode bX2_releaseDownTo 20 = .ok (.getfield 19, 3) := by decide +kernel
theorem dX2_releaseDownTo_23 : decode bX2_releaseDownTo 23 = .ok (.iload_n 2, 1) := by decide +kernel
theorem dX2_releaseDownTo_24 : decode bX2_releaseDownTo 24 = .ok (.iaload, 1) := by decide +kernel
theorem dX2_releaseDownTo_25 : decode bX2_releaseDownTo 25 = .ok (.bipush 31, 2) := by decide +kernel
theorem dX2_releaseDownTo_27 : decode bX2_releaseDownTo 27 = .ok (.if_icmp .eq 13, 3) := by decide +kernel
theorem dX2_releaseDownTo_30 : decode bX2_releaseDownTo 30 = .ok (.aload_n 0, 1) := by decide +kernel
theorem dX2_releaseDownTo_31 : decode bX2_releaseDownTo 31 = .ok (.getfield 19, 3) := by decide +kernel
theorem dX2_releaseDownTo_34 : decode bX2_releaseDownTo 34 = .ok (.iload_n 2, 1) := by decide +kernel
theorem dX2_releaseDownTo_35 : decode bX2_releaseDownTo 35 = .ok (.iaload, 1) := by decide +kernel
theorem dX2_releaseDownTo_36 : decode bX2_releaseDownTo 36 = .ok (.iload_n 1, 1) := by decide +kernel
theorem dX2_releaseDownTo_37 : decode bX2_releaseDownTo 37 = .ok (.if_icmp .ge 4, 3) := by decide +kernel
theorem dX2_releaseDownTo_40 : decode bX2_releaseDownTo 40 = .ok (.return_, 1) := by decide +kernel
theorem dX2_releaseDownTo_41 : decode bX2_releaseDownTo 41 = .ok (.aload_n 0, 1) := by decide +kernel
theorem dX2_releaseDownTo_42 : decode bX2_releaseDownTo 42 = .ok (.getfield 15, 3) := by decide +kernel
theorem dX2_releaseDownTo_45 : decode bX2_releaseDownTo 45 = .ok (.bipush (-10), 2) := by decide +kernel
theorem dX2_releaseDownTo_47 : decode bX2_releaseDownTo 47 = .ok (.aload_n 0, 1) := by decide +kernel
theorem dX2_releaseDownTo_48 : decode bX2_releaseDownTo 48 = .ok (.getfield 19, 3) := by decide +kernel
theorem dX2_releaseDownTo_51 : decode bX2_releaseDownTo 51 = .ok (.iload_n 2, 1) := by decide +kernel
theorem dX2_releaseDownTo_52 : decode bX2_releaseDownTo 52 = .ok (.iaload, 1) := by decide +kernel
theorem dX2_releaseDownTo_53 : decode bX2_releaseDownTo 53 = .ok (.bipush 26, 2) := by decide +kernel
theorem dX2_releaseDownTo_55 : decode bX2_releaseDownTo 55 = .ok (.isub, 1) := by decide +kernel
theorem dX2_releaseDownTo_56 : decode bX2_releaseDownTo 56 = .ok (.isub, 1) := by decide +kernel
theorem dX2_releaseDownTo_57 : decode bX2_releaseDownTo 57 = .ok (.invokevirtual 156, 3) := by decide +kernel
theorem dX2_releaseDownTo_60 : decode bX2_releaseDownTo 60 = .ok (.aload_n 0, 1) := by decide +kernel
theorem dX2_releaseDownTo_61 : decode bX2_releaseDownTo 61 = .ok (.iload_n 2, 1) := by decide +kernel
theorem dX2_releaseDownTo_62 : decode bX2_releaseDownTo 62 = .ok (.putfield 162, 3) := by decide +kernel
theorem dX2_releaseDownTo_65 : decode bX2_releaseDownTo 65 = .ok (.iinc 2 (-1), 3) := by decide +kernel
theorem dX2_releaseDownTo_68 : decode bX2_releaseDownTo 68 = .ok (.goto (-53), 3) := by decide +kernel
theorem dX2_releaseDownTo_71 : decode bX2_releaseDownTo 71 = .ok (.return_, 1) := by decide +kernel
set_option maxRecDepth 20000 in
set_option maxHeartbeats 4000000 in
theorem cX2_releaseDownTo {l : Launch} {k : Kx} {F : Nat} {a1 : Int32} {μ μ' : Mm} (hk : kok k) (e_this : kex k 2 0) (hf : fX2_releaseDownTo F a1 μ = some μ') : MM l k 1 yX2_releaseDownTo bX2_releaseDownTo 3 none [.ref (kad k 2 0), .int a1] μ none μ' := by
  refine MM.of (lv := [(0, .ref (kad k 2 0)), (1, .int a1)]) (plainFor_of_name (by decide)) hk (Nat.le_of_ble_eq_true rfl) rfl (fun z hl hx => ?_)
  subst hl
  have hx : Ok z k bX2_releaseDownTo 3 "RopeDance$Reader" none 1 (0, 0) := hx
  have L15 : ∀ (n : Nat) (v1 : Int32) (v2 : Int32) (μ : Mm) (e_v0 : kex k 2 0), fX2_releaseDownTo_L15 F n v1 v2 μ = some μ' → Gw z k 3 (k, (0, 0), none, none, μ') (0, 0) 15 μ [(0, .ref (kad k 2 0)), (1, .int v1), (2, .int v2)] [] := by
    intro  n
    induction n with
    | zero =>
      intro v1 v2 μ e_v0 hf
      exact f_no (show (none : Option (Mm)) = _ from hf)
    | succ n ih =>
      intro v1 v2 μ e_v0 hf
      rw [fX2_releaseDownTo_L15] at hf
      refine r_iloadn hx 2 rfl rfl dX2_releaseDownTo_15 ?_
      refine r_iflt (tgt := 71) hx rfl dX2_releaseDownTo_16 (fun q2 => ?_) (fun q2 => ?_)
      · have hf := (f_ite hf).1 q2
        exact r_vret hx hf dX2_releaseDownTo_71
      · have hf := (f_ite hf).2 q2
        refine r_aloadn hx 0 rfl rfl dX2_releaseDownTo_19 ?_
        refine r_getR hx (c' := 24) (i' := 0) FK2_6 e_v0 rfl wf_X2_19 dX2_releaseDownTo_20 (fun e3 => ?_)
        refine r_iloadn hx 2 rfl rfl dX2_releaseDownTo_23 ?_
        obtain ⟨b4, hf⟩ := f_chk hf
        refine r_iald hx (by decide) rfl e3 b4 rfl dX2_releaseDownTo_24 ?_
        refine r_bipush hx cb_31 dX2_releaseDownTo_25 ?_
        refine r_iceq (tgt := 40) hx rfl dX2_releaseDownTo_27 (fun q5 => ?_) (fun q5 => ?_)
        · have hf := (f_ite hf).1 q5
          exact r_vret hx hf dX2_releaseDownTo_40
        · have hf := (f_ite hf).2 q5
          refine r_aloadn hx 0 rfl rfl dX2_releaseDownTo_30 ?_
          refine r_getR hx (c' := 24) (i' := 0) FK2_6 e_v0 rfl wf_X2_19 dX2_releaseDownTo_31 (fun e6 => ?_)
          refine r_iloadn hx 2 rfl rfl dX2_releaseDownTo_34 ?_
          refine r_iald hx (by decide) rfl e6 b4 rfl dX2_releaseDownTo_35 ?_
          refine r_iloadn hx 1 rfl rfl dX2_releaseDownTo_36 ?_
          refine r_icge (tgt := 41) hx rfl dX2_releaseDownTo_37 (fun q7 => ?_) (fun q7 => ?_)
          · have hf := (f_ite hf).1 q7
            refine r_aloadn hx 0 rfl rfl dX2_releaseDownTo_41 ?_
            refine r_getT hx FK2_3 e_v0 (by decide) wf_X2_15 dX2_releaseDownTo_42 (fun e8 => ?_)
            refine r_bipush hx cb_m10 dX2_releaseDownTo_45 ?_
            refine r_aloadn hx 0 rfl rfl dX2_releaseDownTo_47 ?_
            refine r_getR hx (c' := 24) (i' := 0) FK2_6 e_v0 rfl wf_X2_19 dX2_releaseDownTo_48 (fun e9 => ?_)
            refine r_iloadn hx 2 rfl rfl dX2_releaseDownTo_51 ?_
            refine r_iald hx (by decide) rfl e9 b4 rfl dX2_releaseDownTo_52 ?_
            refine r_bipush hx cb_26 dX2_releaseDownTo_53 ?_
            refine r_isub hx dX2_releaseDownTo_55 ?_
            refine r_isub hx dX2_releaseDownTo_56 ?_
            obtain ⟨μ11, c10, hf⟩ := f_bd1 hf
            refine r_callV hx (As := [.int ((-10) - ((gi μ 24 0 v2.toNatClampNeg) - 26))]) (rest := []) (st1 := []) (c := 8) (i := (tx (gi μ 2 0 3))) (TT := T8) (N := 13) MK_X8_addCode rfl wi_X8_addCode we_X8_addCode wm_X2_156 ⟨Nat.le_refl _, Nat.le_refl _⟩ (cX8_addCode hk e8 c10) e8 (Nat.le_of_ble_eq_true rfl) rfl rfl (Nat.le_of_ble_eq_true rfl) rfl dX2_releaseDownTo_57 (fun hb12 => ?_)
            refine r_aloadn hx 0 rfl rfl dX2_releaseDownTo_60 ?_
            refine r_iloadn hx 2 rfl rfl dX2_releaseDownTo_61 ?_
            refine r_putI (ty := .int) hx FK2_7 (fun T N h => by cases h; rfl) e_v0 wf_X2_162 (by decide +kernel) rfl rfl dX2_releaseDownTo_62 ?_
            refine r_iinc (lv' := [(2, .int (v2 + (-1))), (0, .ref (kad k 2 0)), (1, .int v1)]) hx 2 rfl (congrArg (fun y => v2 + y) ci_m1) (Nat.le_of_ble_eq_true rfl) rfl dX2_releaseDownTo_65 ?_
            refine r_goto (tgt := 15) hx rfl dX2_releaseDownTo_68 ?_
            refine r_sub [1, 2, 0] rfl ?_
            exact ih v1 (v2 + (-1)) (si μ11 2 0 7 v2) e_v0 hf
          · have hf := (f_ite hf).2 q7
            exact r_vret hx hf dX2_releaseDownTo_40
  unfold fX2_releaseDownTo at hf
  refine r_aloadn hx 0 rfl rfl dX2_releaseDownTo_0 ?_
  refine r_getI hx FK2_7 e_this wf_X2_162 dX2_releaseDownTo_1 ?_
  refine r_aloadn hx 0 rfl rfl dX2_releaseDownTo_4 ?_
  refine r_getR hx (c' := 24) (i' := 0) FK2_6 e_this rfl wf_X2_19 dX2_releaseDownTo_5 (fun e1 => ?_)
  refine r_alen (v := 32) hx (by decide) (by decide) e1 (by decide) dX2_releaseDownTo_8 ?_
  refine r_mmin hx wm_X2_183 xws_min xwm xwk_min ⟨Nat.le_refl _, Nat.le_refl _⟩ (Nat.le_of_ble_eq_true rfl) (Nat.le_of_ble_eq_true rfl) dX2_releaseDownTo_9 ?_
  refine r_iconst hx ci_1 dX2_releaseDownTo_12 ?_
  refine r_isub hx dX2_releaseDownTo_13 ?_
  refine r_istoren (lv' := [(2, .int ((mn (gi μ 2 0 7) 32) - 1)), (0, .ref (kad k 2 0)), (1, .int a1)]) hx rfl (Nat.le_of_ble_eq_true rfl) rfl dX2_releaseDownTo_14 ?_
  refine r_sub [1, 2, 0] rfl ?_
  exact L15 F a1 ((mn (gi μ 2 0 7) 32) - 1) μ e_this hf
theorem dX2_readSum_0 : decode bX2_readSum 0 = .ok (.iconst 1, 1) := by decide +kernel
theorem dX2_readSum_1 : decode bX2_readSum 1 = .ok (.istore_n 1, 1) := by decide +kernel
theorem dX2_readSum_2 : decode bX2_readSum 2 = .ok (.aload_n 0, 1) := by decide +kernel
theorem dX2_readSum_3 : decode bX2_readSum 3 = .ok (.iconst 0, 1) := by decide +kernel
theorem dX2_readSum_4 : decode bX2_readSum 4 = .ok (.putfield 162, 3) := by decide +kernel
theorem dX2_readSum_7 : decode bX2_readSum 7 = .ok (.aload_n 0, 1) := by decide +kernel
theorem dX2_readSum_8 : decode bX2_readSum 8 = .ok (.iconst 0, 1) := by decide +kernel
theorem dX2_readSum_9 : decode bX2_readSum 9 = .ok (.putfield 165, 3) := by decide +kernel
theorem dX2_readSum_12 : decode bX2_readSum 12 = .ok (.iconst 0, 1) := by decide +kernel
theorem dX2_readSum_13 : decode bX2_readSum 13 = .ok (.istore_n 2, 1) := by decide +kernel
theorem dX2_readSum_14 : decode bX2_readSum 14 = .ok (.iload_n 2, 1) := by decide +kernel
theorem dX2_readSum_15 : decode bX2_readSum 15 = .ok (.sipush 400, 3) := by decide +kernel
theorem dX2_readSum_18 : decode bX2_readSum 18 = .ok (.if_icmp .gt 135, 3) := by decide +kernel
theorem dX2_readSum_21 : decode bX2_readSum 21 = .ok (.aload_n 0, 1) := by decide +kernel
theorem dX2_readSum_22 : decode bX2_readSum 22 = .ok (.getfield 34, 3) := by decide +kernel
theorem dX2_readSum_25 : decode bX2_readSum 25 = .ok (.ifCond .ne 128, 3) := by decide +kernel
theorem dX2_readSum_28 : decode bX2_readSum 28 = .ok (.aload_n 0, 1) := by decide +kernel
theorem dX2_readSum_29 : decode bX2_readSum 29 = .ok (.getfield 9, 3) := by decide +kernel
theorem dX2_readSum_32 : decode bX2_readSum 32 = .ok (.getfield 53, 3) := by decide +kernel
theorem dX2_readSum_35 : decode bX2_readSum 35 = .ok (.istore_n 3, 1) := by decide +kernel
theorem dX2_readSum_36 : decode bX2_readSum 36 = .ok (.iload_n 1, 1) := by decide +kernel
theorem dX2_readSum_37 : decode bX2_readSum 37 = .ok (.ifCond .eq 23, 3) := by decide +kernel
theorem dX2_readSum_40 : decode bX2_readSum 40 = .ok (.iload_n 3, 1) := by decide +kernel
theorem dX2_readSum_41 : decode bX2_readSum 41 = .ok (.bipush 31, 2) := by decide +kernel
theorem dX2_readSum_43 : decode bX2_readSum 43 = .ok (.if_icmp .ne 7, 3) := by decide +kernel
theorem dX2_readSum_46 : decode bX2_readSum 46 = .ok (.iconst 1, 1) := by decide +kernel
theorem dX2_readSum_47 : decode bX2_readSum 47 = .ok (.goto 4, 3) := by decide +kernel
theorem dX2_readSum_50 : decode bX2_readSum 50 = .ok (.iconst 0, 1) := by decide +kernel
theorem dX2_readSum_51 : decode bX2_readSum 51 = .ok (.istore_n 1, 1) := by decide +kernel
theorem dX2_readSum_52 : decode bX2_readSum 52 = .ok (.aload_n 0, 1) := by decide +kernel
theorem dX2_readSum_53 : decode bX2_readSum 53 = .ok (.iload_n 3, 1) := by decide +kernel
theorem dX2_readSum_54 : decode bX2_readSum 54 = .ok (.invokevirtual 168, 3) := by decide +kernel
theorem dX2_readSum_57 : decode bX2_readSum 57 = .ok (.goto 90, 3) := by decide +kernel
theorem dX2_readSum_60 : decode bX2_readSum 60 = .ok (.iload_n 3, 1) := by decide +kernel
theorem dX2_readSum_61 : decode bX2_readSum 61 = .ok (.bipush 26, 2) := by decide +kernel
theorem dX2_readSum_63 : decode bX2_readSum 63 = .ok (.if_icmp .lt 41, 3) := by decide +kernel
theorem dX2_readSum_66 : decode bX2_readSum 66 = .ok (.iload_n 3, 1) := by decide +kernel
theorem dX2_readSum_67 : decode bX2_readSum 67 = .ok (.bipush 29, 2) := by decide +kernel
theorem dX2_readSum_69 : decode bX2_readSum 69 = .ok (.if_icmp .gt 35, 3) := by decide +kernel
theorem dX2_readSum_72 : decode bX2_readSum 72 = .ok (.aload_n 0, 1) := by decide +kernel
theorem dX2_readSum_73 : decode bX2_readSum 73 = .ok (.iload_n 3, 1) := by decide +kernel
theorem dX2_readSum_74 : decode bX2_readSum 74 = .ok (.invokevirtual 91, 3) := by decide +kernel
theorem dX2_readSum_77 : decode bX2_readSum 77 = .ok (.aload_n 0, 1) := by decide +kernel
theorem dX2_readSum_78 : decode bX2_readSum 78 = .ok (.iload_n 3, 1) := by decide +kernel
theorem dX2_readSum_79 : decode bX2_readSum 79 = .ok (.bipush 28, 2) := by decide +kernel
theorem dX2_readSum_81 : decode bX2_readSum 81 = .ok (.if_icmp .lt 8, 3) := by decide +kernel
theorem dX2_readSum_84 : decode bX2_readSum 84 = .ok (.bipush 28, 2) := by decide +kernel
theorem dX2_readSum_86 : decode bX2_readSum 86 = .ok (.goto 5, 3) := by decide +kernel
theorem dX2_readSum_89 : decode bX2_readSum 89 = .ok (.bipush 26, 2) := by decide +kernel
theorem dX2_readSum_91 : decode bX2_readSum 91 = .ok (.invokevirtual 171, 3) := by decide +kernel
theorem dX2_readSum_94 : decode bX2_readSum 94 = .ok (.aload_n 0, 1) := by decide +kernel
theorem dX2_readSum_95 : decode bX2_readSum 95 = .ok (.iload_n 3, 1) := by decide +kernel
theorem dX2_readSum_96 : decode bX2_readSum 96 = .ok (.invokevirtual 174, 3) := by decide +kernel
theorem dX2_readSum_99 : decode bX2_readSum 99 = .ok (.iconst 1, 1) := by decide +kernel
theorem dX2_readSum_100 : decode bX2_readSum 100 = .ok (.istore_n 1, 1) := by decide +kernel
theorem dX2_readSum_101 : decode bX2_readSum 101 = .ok (.goto 46, 3) := by decide +kernel
theorem dX2_readSum_104 : decode bX2_readSum 104 = .ok (.aload_n 0, 1) := by decide +kernel
theorem dX2_readSum_105 : decode bX2_readSum 105 = .ok (.getfield 165, 3) := by decide +kernel
theorem dX2_readSum_108 : decode bX2_readSum 108 = .ok (.ifCond .le 45, 3) := by decide +kernel
theorem dX2_readSum_111 : decode bX2_readSum 111 = .ok (.aload_n 0, 1) := by decide +kernel
theorem dX2_readSum_112 : decode bX2_readSum 112 = .ok (.bipush 32, 2) := by decide +kernel
theorem dX2_readSum_114 : decode bX2_readSum 114 = .ok (.invokevirtual 91, 3) := by decide +kernel
theorem dX2_readSum_117 : decode bX2_readSum 117 = .ok (.aload_n 0, 1) := by decide +kernel
theorem dX2_readSum_118 : decode bX2_readSum 118 = .ok (.bipush 26, 2) := by decide +kernel
theorem dX2_readSum_120 : decode bX2_readSum 120 = .ok (.invokevirtual 171, 3) := by decide +kernel
theorem dX2_readSum_123 : decode bX2_readSum 123 = .ok (.aload_n 0, 1) := by decide +kernel
theorem dX2_readSum_124 : decode bX2_readSum 124 = .ok (.iconst 0, 1) := by decide +kernel
theorem dX2_readSum_125 : decode bX2_readSum 125 = .ok (.aload_n 0, 1) := by decide +kernel
theorem dX2_readSum_126 : decode bX2_readSum 126 = .ok (.getfield 162, 3) := by decide +kernel
theorem dX2_readSum_129 : decode bX2_readSum 129 = .ok (.iconst 1, 1) := by decide +kernel
theorem dX2_readSum_130 : decode bX2_readSum 130 = .ok (.isub, 1) := by decide +kernel
theorem dX2_readSum_131 : decode bX2_readSum 131 = .ok (.invokestatic 177, 3) := by decide +kernel
theorem dX2_readSum_134 : decode bX2_readSum 134 = .ok (.putfield 162, 3) := by decide +kernel
theorem dX2_readSum_137 : decode bX2_readSum 137 = .ok (.aload_n 0, 1) := by decide +kernel
theorem dX2_readSum_138 : decode bX2_readSum 138 = .ok (.dup, 1) := by decide +kernel
theorem dX2_readSum_139 : decode bX2_readSum 139 = .ok (.getfield 165, 3) := by decide +kernel
theorem dX2_readSum_142 : decode bX2_readSum 142 = .ok (.iconst 1, 1) := by decide +kernel
theorem dX2_readSum_143 : decode bX2_readSum 143 = .ok (.isub, 1) := by decide +kernel
theorem dX2_readSum_144 : decode bX2_readSum 144 = .ok (.putfield 165, 3) := by decide +kernel
theorem dX2_readSum_147 : decode bX2_readSum 147 = .ok (.iinc 2 1, 3) := by decide +kernel
theorem dX2_readSum_150 : decode bX2_readSum 150 = .ok (.goto (-136), 3) := by decide +kernel
theorem dX2_readSum_153 : decode bX2_readSum 153 = .ok (.aload_n 0, 1) := by decide +kernel
theorem dX2_readSum_154 : decode bX2_readSum 154 = .ok (.bipush 26, 2) := by decide +kernel
theorem dX2_readSum_156 : decode bX2_readSum 156 = .ok (.invokevirtual 171, 3) := by decide +kernel
theorem dX2_readSum_159 : decode bX2_readSum 159 = .ok (.return_, 1) := by decide +kernel
set_option maxRecDepth 20000 in
set_option maxHeartbeats 4000000 in
theorem cX2_readSum {l : Launch} {k : Kx} {F : Nat} {μ μ' : Mm} (hk : kok k) (e_this : kex k 2 0) (hf : fX2_readSum F μ = some μ') : MM l k 3 yX2_readSum bX2_readSum 4 none [.ref (kad k 2 0)] μ none μ' := by
  refine MM.of (lv := [(0, .ref (kad k 2 0))]) (plainFor_of_name (by decide)) hk (Nat.le_of_ble_eq_true rfl) rfl (fun z hl hx => ?_)
  subst hl
  have hx : Ok z k bX2_readSum 4 "RopeDance$Reader" none 3 (0, 0) := hx
  have L153 : ∀ (μ : Mm) (e_v0 : kex k 2 0), fX2_readSum_L153 F  μ = some μ' → Gw z k 4 (k, (0, 0), none, none, μ') (0, 0) 153 μ [(0, .ref (kad k 2 0))] [] := by
    intro  μ e_v0 hf
    unfold fX2_readSum_L153 at hf
    refine r_aloadn hx 0 rfl rfl dX2_readSum_153 ?_
    refine r_bipush hx cb_26 dX2_readSum_154 ?_
    obtain ⟨μ3, c2, hf⟩ := f_bd1 hf
    refine r_callV hx (As := [.int 26]) (rest := []) (st1 := []) (c := 2) (i := 0) (TT := T2) (N := 10) MK_X2_releaseDownTo rfl wi_X2_releaseDownTo we_X2_releaseDownTo wm_X2_171 ⟨Nat.le_refl _, Nat.le_refl _⟩ (cX2_releaseDownTo hk e_v0 c2) e_v0 (Nat.le_of_ble_eq_true rfl) rfl rfl (Nat.le_of_ble_eq_true rfl) rfl dX2_readSum_156 (fun hb4 => ?_)
    exact r_vret hx hf dX2_readSum_159
  have L147 : ∀ (K14 : Int32 → Int32 → Mm → Option (Mm)) (HK14 : ∀ (v1 : Int32) (v2 : Int32) (μ : Mm) (e_v0 : kex k 2 0), K14 v1 v2 μ = some μ' → Gw z k 4 (k, (0, 0), none, none, μ') (0, 0) 14 μ [(0, .ref (kad k 2 0)), (1, .int v1), (2, .int v2)] []) (v1 : Int32) (v2 : Int32) (μ : Mm) (e_v0 : kex k 2 0), fX2_readSum_L147 F K14 v1 v2 μ = some μ' → Gw z k 4 (k, (0, 0), none, none, μ') (0, 0) 147 μ [(0, .ref (kad k 2 0)), (1, .int v1), (2, .int v2)] [] := by
    intro K14 HK14 v1 v2 μ e_v0 hf
    unfold fX2_readSum_L147 at hf
    refine r_iinc (lv' := [(2, .int (v2 + 1)), (0, .ref (kad k 2 0)), (1, .int v1)]) hx 2 rfl (congrArg (fun y => v2 + y) ci_1) (Nat.le_of_ble_eq_true rfl) rfl dX2_readSum_147 ?_
    refine r_goto (tgt := 14) hx rfl dX2_readSum_150 ?_
    refine r_sub [1, 2, 0] rfl ?_
    exact HK14 v1 (v2 + 1) μ e_v0 hf
  have L104 : ∀ (K14 : Int32 → Int32 → Mm → Option (Mm)) (HK14 : ∀ (v1 : Int32) (v2 : Int32) (μ : Mm) (e_v0 : kex k 2 0), K14 v1 v2 μ = some μ' → Gw z k 4 (k, (0, 0), none, none, μ') (0, 0) 14 μ [(0, .ref (kad k 2 0)), (1, .int v1), (2, .int v2)] []) (v1 : Int32) (v2 : Int32) (μ : Mm) (e_v0 : kex k 2 0), fX2_readSum_L104 F K14 v1 v2 μ = some μ' → Gw z k 4 (k, (0, 0), none, none, μ') (0, 0) 104 μ [(0, .ref (kad k 2 0)), (1, .int v1), (2, .int v2)] [] := by
    intro K14 HK14 v1 v2 μ e_v0 hf
    unfold fX2_readSum_L104 at hf
    refine r_aloadn hx 0 rfl rfl dX2_readSum_104 ?_
    refine r_getI hx FK2_8 e_v0 wf_X2_165 dX2_readSum_105 ?_
    refine r_ifle (tgt := 153) hx rfl dX2_readSum_108 (fun q9 => ?_) (fun q9 => ?_)
    · have hf := (f_ite hf).1 q9
      refine r_sub [0] rfl ?_
      exact L153   μ e_v0 hf
    · have hf := (f_ite hf).2 q9
      refine r_aloadn hx 0 rfl rfl dX2_readSum_111 ?_
      refine r_bipush hx cb_32 dX2_readSum_112 ?_
      obtain ⟨μ11, c10, hf⟩ := f_bd1 hf
      refine r_callV hx (As := [.int 32]) (rest := []) (st1 := []) (c := 2) (i := 0) (TT := T2) (N := 10) MK_X2_take rfl wi_X2_take we_X2_take wm_X2_91 ⟨Nat.le_refl _, Nat.le_refl _⟩ (cX2_take hk e_v0 c10) e_v0 (Nat.le_of_ble_eq_true rfl) rfl rfl (Nat.le_of_ble_eq_true rfl) rfl dX2_readSum_114 (fun hb12 => ?_)
      refine r_aloadn hx 0 rfl rfl dX2_readSum_117 ?_
      refine r_bipush hx cb_26 dX2_readSum_118 ?_
      obtain ⟨μ14, c13, hf⟩ := f_bd1 hf
      refine r_callV hx (As := [.int 26]) (rest := []) (st1 := []) (c := 2) (i := 0) (TT := T2) (N := 10) MK_X2_releaseDownTo rfl wi_X2_releaseDownTo we_X2_releaseDownTo wm_X2_171 ⟨Nat.le_refl _, Nat.le_refl _⟩ (cX2_releaseDownTo hk e_v0 c13) e_v0 (Nat.le_of_ble_eq_true rfl) rfl rfl (Nat.le_of_ble_eq_true rfl) rfl dX2_readSum_120 (fun hb15 => ?_)
      refine r_aloadn hx 0 rfl rfl dX2_readSum_123 ?_
      refine r_iconst hx ci_0 dX2_readSum_124 ?_
      refine r_aloadn hx 0 rfl rfl dX2_readSum_125 ?_
      refine r_getI hx FK2_7 e_v0 wf_X2_162 dX2_readSum_126 ?_
      refine r_iconst hx ci_1 dX2_readSum_129 ?_
      refine r_isub hx dX2_readSum_130 ?_
      refine r_mmax hx wm_X2_177 xws_max xwm xwk_max ⟨Nat.le_refl _, Nat.le_refl _⟩ (Nat.le_of_ble_eq_true rfl) (Nat.le_of_ble_eq_true rfl) dX2_readSum_131 ?_
      refine r_putI (ty := .int) hx FK2_7 (fun T N h => by cases h; rfl) e_v0 wf_X2_162 (by decide +kernel) rfl rfl dX2_readSum_134 ?_
      refine r_aloadn hx 0 rfl rfl dX2_readSum_137 ?_
      refine r_dup hx rfl dX2_readSum_138 ?_
      refine r_getI hx FK2_8 e_v0 wf_X2_165 dX2_readSum_139 ?_
      refine r_iconst hx ci_1 dX2_readSum_142 ?_
      refine r_isub hx dX2_readSum_143 ?_
      refine r_putI (ty := .int) hx FK2_8 (fun T N h => by cases h; rfl) e_v0 wf_X2_165 (by decide +kernel) rfl rfl dX2_readSum_144 ?_
      refine r_sub [0, 1, 2] rfl ?_
      exact L147 _ HK14  v1 v2 (si (si μ14 2 0 7 (mx 0 ((gi μ14 2 0 7) - 1))) 2 0 8 ((gi (si μ14 2 0 7 (mx 0 ((gi μ14 2 0 7) - 1))) 2 0 8) - 1)) e_v0 hf
  have L91 : ∀ (K14 : Int32 → Int32 → Mm → Option (Mm)) (HK14 : ∀ (v1 : Int32) (v2 : Int32) (μ : Mm) (e_v0 : kex k 2 0), K14 v1 v2 μ = some μ' → Gw z k 4 (k, (0, 0), none, none, μ') (0, 0) 14 μ [(0, .ref (kad k 2 0)), (1, .int v1), (2, .int v2)] []) (v2 : Int32) (v3 : Int32) (s1 : Int32) (μ : Mm) (e_v0 : kex k 2 0) (e_s0 : kex k 2 0), fX2_readSum_L91 F K14 v2 v3 s1 μ = some μ' → Gw z k 4 (k, (0, 0), none, none, μ') (0, 0) 91 μ [(0, .ref (kad k 2 0)), (2, .int v2), (3, .int v3)] [.int s1, .ref (kad k 2 0)] := by
    intro K14 HK14 v2 v3 s1 μ e_v0 e_s0 hf
    unfold fX2_readSum_L91 at hf
    obtain ⟨μ22, c21, hf⟩ := f_bd1 hf
    refine r_callV hx (As := [.int s1]) (rest := []) (st1 := []) (c := 2) (i := 0) (TT := T2) (N := 10) MK_X2_releaseDownTo rfl wi_X2_releaseDownTo we_X2_releaseDownTo wm_X2_171 ⟨Nat.le_refl _, Nat.le_refl _⟩ (cX2_releaseDownTo hk e_s0 c21) e_s0 (Nat.le_of_ble_eq_true rfl) rfl rfl (Nat.le_of_ble_eq_true rfl) rfl dX2_readSum_91 (fun hb23 => ?_)
    refine r_aloadn hx 0 rfl rfl dX2_readSum_94 ?_
    refine r_iloadn hx 2 rfl rfl dX2_readSum_95 ?_
    obtain ⟨μ25, c24, hf⟩ := f_bd1 hf
    refine r_callV hx (As := [.int v3]) (rest := []) (st1 := []) (c := 2) (i := 0) (TT := T2) (N := 10) MK_X2_addWaiting rfl wi_X2_addWaiting we_X2_addWaiting wm_X2_174 ⟨Nat.le_refl _, Nat.le_refl _⟩ (cX2_addWaiting hk e_v0 c24) e_v0 (Nat.le_of_ble_eq_true rfl) rfl rfl (Nat.le_of_ble_eq_true rfl) rfl dX2_readSum_96 (fun hb26 => ?_)
    refine r_iconst hx ci_1 dX2_readSum_99 ?_
    refine r_istoren (lv' := [(1, .int 1), (0, .ref (kad k 2 0)), (2, .int v2), (3, .int v3)]) hx rfl (Nat.le_of_ble_eq_true rfl) rfl dX2_readSum_100 ?_
    refine r_goto (tgt := 147) hx rfl dX2_readSum_101 ?_
    refine r_sub [1, 0, 2] rfl ?_
    exact L147 _ HK14  1 v2 μ25 e_v0 hf
  have L51 : ∀ (K14 : Int32 → Int32 → Mm → Option (Mm)) (HK14 : ∀ (v1 : Int32) (v2 : Int32) (μ : Mm) (e_v0 : kex k 2 0), K14 v1 v2 μ = some μ' → Gw z k 4 (k, (0, 0), none, none, μ') (0, 0) 14 μ [(0, .ref (kad k 2 0)), (1, .int v1), (2, .int v2)] []) (v2 : Int32) (v3 : Int32) (s0 : Int32) (μ : Mm) (e_v0 : kex k 2 0), fX2_readSum_L51 F K14 v2 v3 s0 μ = some μ' → Gw z k 4 (k, (0, 0), none, none, μ') (0, 0) 51 μ [(0, .ref (kad k 2 0)), (2, .int v2), (3, .int v3)] [.int s0] := by
    intro K14 HK14 v2 v3 s0 μ e_v0 hf
    unfold fX2_readSum_L51 at hf
    refine r_istoren (lv' := [(1, .int s0), (0, .ref (kad k 2 0)), (2, .int v2), (3, .int v3)]) hx rfl (Nat.le_of_ble_eq_true rfl) rfl dX2_readSum_51 ?_
    refine r_aloadn hx 1 rfl rfl dX2_readSum_52 ?_
    refine r_iloadn hx 3 rfl rfl dX2_readSum_53 ?_
    obtain ⟨μ29, c28, hf⟩ := f_bd1 hf
    refine r_callV hx (As := [.int v3]) (rest := []) (st1 := []) (c := 2) (i := 0) (TT := T2) (N := 10) MK_X2_readUnit rfl wi_X2_readUnit we_X2_readUnit wm_X2_168 ⟨Nat.le_refl _, Nat.le_refl _⟩ (cX2_readUnit hk e_v0 c28) e_v0 (Nat.le_of_ble_eq_true rfl) rfl rfl (Nat.le_of_ble_eq_true rfl) rfl dX2_readSum_54 (fun hb30 => ?_)
    refine r_goto (tgt := 147) hx rfl dX2_readSum_57 ?_
    refine r_sub [1, 0, 2] rfl ?_
    exact L147 _ HK14  s0 v2 μ29 e_v0 hf
  have L14 : ∀ (n : Nat) (v1 : Int32) (v2 : Int32) (μ : Mm) (e_v0 : kex k 2 0), fX2_readSum_L14 F n v1 v2 μ = some μ' → Gw z k 4 (k, (0, 0), none, none, μ') (0, 0) 14 μ [(0, .ref (kad k 2 0)), (1, .int v1), (2, .int v2)] [] := by
    intro  n
    induction n with
    | zero =>
      intro v1 v2 μ e_v0 hf
      exact f_no (show (none : Option (Mm)) = _ from hf)
    | succ n ih =>
      intro v1 v2 μ e_v0 hf
      rw [fX2_readSum_L14] at hf
      refine r_iloadn hx 2 rfl rfl dX2_readSum_14 ?_
      refine r_sipush hx cs_400 dX2_readSum_15 ?_
      refine r_icgt (tgt := 153) hx rfl dX2_readSum_18 (fun q1 => ?_) (fun q1 => ?_)
      · have hf := (f_ite hf).1 q1
        refine r_sub [0] rfl ?_
        exact L153   μ e_v0 hf
      · have hf := (f_ite hf).2 q1
        refine r_aloadn hx 0 rfl rfl dX2_readSum_21 ?_
        refine r_getI hx FK2_0 e_v0 wf_X2_34 dX2_readSum_22 ?_
        refine r_ifne (tgt := 153) hx rfl dX2_readSum_25 (fun q5 => ?_) (fun q5 => ?_)
        · have hf := (f_ite hf).2 q5
          refine r_sub [0] rfl ?_
          exact L153   μ e_v0 hf
        · have hf := (f_ite hf).1 q5
          refine r_aloadn hx 0 rfl rfl dX2_readSum_28 ?_
          refine r_getR hx (c' := 7) (i' := 0) FK2_2 e_v0 rfl wf_X2_9 dX2_readSum_29 (fun e6 => ?_)
          refine r_getI hx FK7_2 e6 wf_X2_53 dX2_readSum_32 ?_
          refine r_istoren (lv' := [(3, .int (gi μ 7 0 2)), (0, .ref (kad k 2 0)), (1, .int v1), (2, .int v2)]) hx rfl (Nat.le_of_ble_eq_true rfl) rfl dX2_readSum_35 ?_
          refine r_iloadn hx 2 rfl rfl dX2_readSum_36 ?_
          refine r_ifeq (tgt := 60) hx rfl dX2_readSum_37 (fun q7 => ?_) (fun q7 => ?_)
          · have hf := (f_ite hf).1 q7
            refine r_iloadn hx 0 rfl rfl dX2_readSum_60 ?_
            refine r_bipush hx cb_26 dX2_readSum_61 ?_
            refine r_iclt (tgt := 104) hx rfl dX2_readSum_63 (fun q8 => ?_) (fun q8 => ?_)
            · have hf := (f_ite hf).1 q8
              refine r_sub [1, 2, 3] rfl ?_
              exact L104 _ ih  v1 v2 μ e_v0 hf
            · have hf := (f_ite hf).2 q8
              refine r_iloadn hx 0 rfl rfl dX2_readSum_66 ?_
              refine r_bipush hx cb_29 dX2_readSum_67 ?_
              refine r_icgt (tgt := 104) hx rfl dX2_readSum_69 (fun q16 => ?_) (fun q16 => ?_)
              · have hf := (f_ite hf).1 q16
                refine r_sub [1, 2, 3] rfl ?_
                exact L104 _ ih  v1 v2 μ e_v0 hf
              · have hf := (f_ite hf).2 q16
                refine r_aloadn hx 1 rfl rfl dX2_readSum_72 ?_
                refine r_iloadn hx 0 rfl rfl dX2_readSum_73 ?_
                obtain ⟨μ18, c17, hf⟩ := f_bd1 hf
                refine r_callV hx (As := [.int (gi μ 7 0 2)]) (rest := []) (st1 := []) (c := 2) (i := 0) (TT := T2) (N := 10) MK_X2_take rfl wi_X2_take we_X2_take wm_X2_91 ⟨Nat.le_refl _, Nat.le_refl _⟩ (cX2_take hk e_v0 c17) e_v0 (Nat.le_of_ble_eq_true rfl) rfl rfl (Nat.le_of_ble_eq_true rfl) rfl dX2_readSum_74 (fun hb19 => ?_)
                refine r_aloadn hx 1 rfl rfl dX2_readSum_77 ?_
                refine r_iloadn hx 0 rfl rfl dX2_readSum_78 ?_
                refine r_bipush hx cb_28 dX2_readSum_79 ?_
                refine r_iclt (tgt := 89) hx rfl dX2_readSum_81 (fun q20 => ?_) (fun q20 => ?_)
                · have hf := (f_ite hf).1 q20
                  refine r_bipush hx cb_26 dX2_readSum_89 ?_
                  refine r_sub [1, 3, 0] rfl ?_
                  exact L91 _ ih  v2 (gi μ 7 0 2) 26 μ18 e_v0 e_v0 hf
                · have hf := (f_ite hf).2 q20
                  refine r_bipush hx cb_28 dX2_readSum_84 ?_
                  refine r_goto (tgt := 91) hx rfl dX2_readSum_86 ?_
                  refine r_sub [1, 3, 0] rfl ?_
                  exact L91 _ ih  v2 (gi μ 7 0 2) 28 μ18 e_v0 e_v0 hf
          · have hf := (f_ite hf).2 q7
            refine r_iloadn hx 0 rfl rfl dX2_readSum_40 ?_
            refine r_bipush hx cb_31 dX2_readSum_41 ?_
            refine r_icne (tgt := 50) hx rfl dX2_readSum_43 (fun q27 => ?_) (fun q27 => ?_)
            · have hf := (f_ite hf).2 q27
              refine r_iconst hx ci_0 dX2_readSum_50 ?_
              refine r_sub [1, 3, 0] rfl ?_
              exact L51 _ ih  v2 (gi μ 7 0 2) 0 μ e_v0 hf
            · have hf := (f_ite hf).1 q27
              refine r_iconst hx ci_1 dX2_readSum_46 ?_
              refine r_goto (tgt := 51) hx rfl dX2_readSum_47 ?_
              refine r_sub [1, 3, 0] rfl ?_
              exact L51 _ ih  v2 (gi μ 7 0 2) 1 μ e_v0 hf
  unfold fX2_readSum at hf
  refine r_iconst hx ci_1 dX2_readSum_0 ?_
  refine r_istoren (lv' := [(1, .int 1), (0, .ref (kad k 2 0))]) hx rfl (Nat.le_of_ble_eq_true rfl) rfl dX2_readSum_1 ?_
  refine r_aloadn hx 1 rfl rfl dX2_readSum_2 ?_
  refine r_iconst hx ci_0 dX2_readSum_3 ?_
  refine r_putI (ty := .int) hx FK2_7 (fun T N h => by cases h; rfl) e_this wf_X2_162 (by decide +kernel) rfl rfl dX2_readSum_4 ?_
  refine r_aloadn hx 1 rfl rfl dX2_readSum_7 ?_
  refine r_iconst hx ci_0 dX2_readSum_8 ?_
  refine r_putI (ty := .int) hx FK2_8 (fun T N h => by cases h; rfl) e_this wf_X2_165 (by decide +kernel) rfl rfl dX2_readSum_9 ?_
  refine r_iconst hx ci_0 dX2_readSum_12 ?_
  refine r_istoren (lv' := [(2, .int 0), (1, .int 1), (0, .ref (kad k 2 0))]) hx rfl (Nat.le_of_ble_eq_true rfl) rfl dX2_readSum_13 ?_
  refine r_sub [2, 1, 0] rfl ?_
  exact L14 F 1 0 (si (si μ 2 0 7 0) 2 0 8 0) e_this hf
theorem dX2_readLaw_0 : decode bX2_readLaw 0 = .ok (.aload_n 0, 1) := by decide +kernel
theorem dX2_readLaw_1 : decode bX2_readLaw 1 = .ok (.iload_n 1, 1) := by decide +kernel
theorem dX2_readLaw_2 : decode bX2_readLaw 2 = .ok (.invokevirtual 91, 3) := by decide +kernel
theorem dX2_readLaw_5 : decode bX2_readLaw 5 = .ok (.aload_n 0, 1) := by decide +kernel
theorem dX2_readLaw_6 : decode bX2_readLaw 6 = .ok (.bipush 25, 2) := by decide +kernel
theorem dX2_readLaw_8 : decode bX2_readLaw 8 = .ok (.invokevirtual 91, 3) := by decide +kernel
theorem dX2_readLaw_11 : decode bX2_readLaw 11 = .ok (.aload_n 0, 1) := by decide +kernel
theorem dX2_readLaw_12 : decode bX2_readLaw 12 = .ok (.getfield 15, 3) := by decide +kernel
theorem dX2_readLaw_15 : decode bX2_readLaw 15 = .ok (.iload_n 1, 1) := by decide +kernel
theorem dX2_readLaw_16 : decode bX2_readLaw 16 = .ok (.iconst 2, 1) := by decide +kernel
theorem dX2_readLaw_17 : decode bX2_readLaw 17 = .ok (.isub, 1) := by decide +kernel
theorem dX2_readLaw_18 : decode bX2_readLaw 18 = .ok (.invokevirtual 146, 3) := by decide +kernel
theorem dX2_readLaw_21 : decode bX2_readLaw 21 = .ok (.iconst 0, 1) := by decide +kernel
theorem dX2_readLaw_22 : decode bX2_readLaw 22 = .ok (.istore_n 2, 1) := by decide +kernel
theorem dX2_readLaw_23 : decode bX2_readLaw 23 = .ok (.iload_n 2, 1) := by decide +kernel
theorem dX2_readLaw_24 : decode bX2_readLaw 24 = .ok (.iconst 4, 1) := by decide +kernel
theorem dX2_readLaw_25 : decode bX2_readLaw 25 = .ok (.if_icmp .gt 90, 3) := by decide +kernel
theorem dX2_readLaw_28 : decode bX2_readLaw 28 = .ok (.aload_n 0, 1) := by decide +kernel
theorem dX2_readLaw_29 : decode bX2_readLaw 29 = .ok (.bipush 10, 2) := by decide +kernel
theorem dX2_readLaw_31 : decode bX2_readLaw 31 = .ok (.invokevirtual 61, 3) := by decide +kernel
theorem dX2_readLaw_34 : decode bX2_readLaw 34 = .ok (.ifCond .eq 81, 3) := by decide +kernel
theorem dX2_readLaw_37 : decode bX2_readLaw 37 = .ok (.iload_n 2, 1) := by decide +kernel
theorem dX2_readLaw_38 : decode bX2_readLaw 38 = .ok (.iconst 4, 1) := by decide +kernel
theorem dX2_readLaw_39 : decode bX2_readLaw 39 = .ok (.if_icmp .ne 9, 3) := by decide +kernel
theorem dX2_readLaw_42 : decode bX2_readLaw 42 = .ok (.aload_n 0, 1) := by decide +kernel
theorem dX2_readLaw_43 : decode bX2_readLaw 43 = .ok (.iconst 2, 1) := by decide +kernel
theorem dX2_readLaw_44 : decode bX2_readLaw 44 = .ok (.invokevirtual 65, 3) := by decide +kernel
theorem dX2_readLaw_47 : decode bX2_readLaw 47 = .ok (.return_, 1) := by decide +kernel
theorem dX2_readLaw_48 : decode bX2_readLaw 48 = .ok (.aload_n 0, 1) := by decide +kernel
theorem dX2_readLaw_49 : decode bX2_readLaw 49 = .ok (.bipush 10, 2) := by decide +kernel
theorem dX2_readLaw_51 : decode bX2_readLaw 51 = .ok (.invokevirtual 91, 3) := by decide +kernel
theorem dX2_readLaw_54 : decode bX2_readLaw 54 = .ok (.aload_n 0, 1) := by decide +kernel
theorem dX2_readLaw_55 : decode bX2_readLaw 55 = .ok (.invokevirtual 149, 3) := by decide +kernel
theorem dX2_readLaw_58 : decode bX2_readLaw 58 = .ok (.aload_n 0, 1) := by decide +kernel
theorem dX2_readLaw_59 : decode bX2_readLaw 59 = .ok (.bipush 30, 2) := by decide +kernel
theorem dX2_readLaw_61 : decode bX2_readLaw 61 = .ok (.invokevirtual 91, 3) := by decide +kernel
theorem dX2_readLaw_64 : decode bX2_readLaw 64 = .ok (.aload_n 0, 1) := by decide +kernel
theorem dX2_readLaw_65 : decode bX2_readLaw 65 = .ok (.invokevirtual 149, 3) := by decide +kernel
theorem dX2_readLaw_68 : decode bX2_readLaw 68 = .ok (.aload_n 0, 1) := by decide +kernel
theorem dX2_readLaw_69 : decode bX2_readLaw 69 = .ok (.bipush 11, 2) := by decide +kernel
theorem dX2_readLaw_71 : decode bX2_readLaw 71 = .ok (.invokevirtual 91, 3) := by decide +kernel
theorem dX2_readLaw_74 : decode bX2_readLaw 74 = .ok (.aload_n 0, 1) := by decide +kernel
theorem dX2_readLaw_75 : decode bX2_readLaw 75 = .ok (.getfield 15, 3) := by decide +kernel
theorem dX2_readLaw_78 : decode bX2_readLaw 78 = .ok (.invokevirtual 152, 3) := by decide +kernel
theorem dX2_readLaw_81 : decode bX2_readLaw 81 = .ok (.istore_n 3, 1) := by decide +kernel
theorem dX2_readLaw_82 : decode bX2_readLaw 82 = .ok (.aload_n 0, 1) := by decide +kernel
theorem dX2_readLaw_83 : decode bX2_readLaw 83 = .ok (.invokevirtual 149, 3) := by decide +kernel
theorem dX2_readLaw_86 : decode bX2_readLaw 86 = .ok (.aload_n 0, 1) := by decide +kernel
theorem dX2_readLaw_87 : decode bX2_readLaw 87 = .ok (.getfield 15, 3) := by decide +kernel
theorem dX2_readLaw_90 : decode bX2_readLaw 90 = .ok (.bipush (-15), 2) := by decide +kernel
theorem dX2_readLaw_92 : decode bX2_readLaw 92 = .ok (.invokevirtual 156, 3) := by decide +kernel
theorem dX2_readLaw_95 : decode bX2_readLaw 95 = .ok (.aload_n 0, 1) := by decide +kernel
theorem dX2_readLaw_96 : decode bX2_readLaw 96 = .ok (.getfield 15, 3) := by decide +kernel
theorem dX2_readLaw_99 : decode bX2_readLaw 99 = .ok (.iload_n 3, 1) := by decide +kernel
theorem dX2_readLaw_100 : decode bX2_readLaw 100 = .ok (.invokevirtual 159, 3) := by decide +kernel
theorem dX2_readLaw_103 : decode bX2_readLaw 103 = .ok (.aload_n 0, 1) := by decide +kernel
theorem dX2_readLaw_104 : decode bX2_readLaw 104 = .ok (.bipush 12, 2) := by decide +kernel
theorem dX2_readLaw_106 : decode bX2_readLaw 106 = .ok (.invokevirtual 91, 3) := by decide +kernel
theorem dX2_readLaw_109 : decode bX2_readLaw 109 = .ok (.iinc 2 1, 3) := by decide +kernel
theorem dX2_readLaw_112 : decode bX2_readLaw 112 = .ok (.goto (-89), 3) := by decide +kernel
theorem dX2_readLaw_115 : decode bX2_readLaw 115 = .ok (.aload_n 0, 1) := by decide +kernel
theorem dX2_readLaw_116 : decode bX2_readLaw 116 = .ok (.invokevirtual 149, 3) := by decide +kernel
theorem dX2_readLaw_119 : decode bX2_readLaw 119 = .ok (.aload_n 0, 1) := by decide +kernel
theorem dX2_readLaw_120 : decode bX2_readLaw 120 = .ok (.getfield 15, 3) := by decide +kernel
theorem dX2_readLaw_123 : decode bX2_readLaw 123 = .ok (.bipush (-15), 2) := by decide +kernel
theorem dX2_readLaw_125 : decode bX2_readLaw 125 = .ok (.invokevirtual 156, 3) := by decide +kernel
theorem dX2_readLaw_128 : decode bX2_readLaw 128 = .ok (.aload_n 0, 1) := by decide +kernel
theorem dX2_readLaw_129 : decode bX2_readLaw 129 = .ok (.bipush 24, 2) := by decide +kernel
theorem dX2_readLaw_131 : decode bX2_readLaw 131 = .ok (.invokevirtual 91, 3) := by decide +kernel
theorem dX2_readLaw_134 : decode bX2_readLaw 134 = .ok (.return_, 1) := by decide +kernel
set_option maxRecDepth 20000 in
set_option maxHeartbeats 4000000 in
theorem cX2_readLaw {l : Launch} {k : Kx} {F : Nat} {a1 : Int32} {μ μ' : Mm} (hk : kok k) (e_this : kex k 2 0) (hf : fX2_readLaw F a1 μ = some μ') : MM l k 4 yX2_readLaw bX2_readLaw 4 none [.ref (kad k 2 0), .int a1] μ none μ' := by
  refine MM.of (lv := [(0, .ref (kad k 2 0)), (1, .int a1)]) (plainFor_of_name (by decide)) hk (Nat.le_of_ble_eq_true rfl) rfl (fun z hl hx => ?_)
  subst hl
  have hx : Ok z k bX2_readLaw 4 "RopeDance$Reader" none 4 (0, 0) := hx
  have L115 : ∀ (μ : Mm) (e_v0 : kex k 2 0), fX2_readLaw_L115 F  μ = some μ' → Gw z k 4 (k, (0, 0), none, none, μ') (0, 0) 115 μ [(0, .ref (kad k 2 0))] [] := by
    intro  μ e_v0 hf
    unfold fX2_readLaw_L115 at hf
    refine r_aloadn hx 0 rfl rfl dX2_readLaw_115 ?_
    obtain ⟨μ13, c12, hf⟩ := f_bd1 hf
    refine r_callV hx (As := []) (rest := []) (st1 := []) (c := 2) (i := 0) (TT := T2) (N := 10) MK_X2_readSum rfl wi_X2_readSum we_X2_readSum wm_X2_149 ⟨Nat.le_refl _, Nat.le_refl _⟩ (cX2_readSum hk e_v0 c12) e_v0 (Nat.le_of_ble_eq_true rfl) rfl rfl (Nat.le_of_ble_eq_true rfl) rfl dX2_readLaw_116 (fun hb14 => ?_)
    refine r_aloadn hx 0 rfl rfl dX2_readLaw_119 ?_
    refine r_getT hx FK2_3 e_v0 (by decide) wf_X2_15 dX2_readLaw_120 (fun e15 => ?_)
    refine r_bipush hx cb_m15 dX2_readLaw_123 ?_
    obtain ⟨μ17, c16, hf⟩ := f_bd1 hf
    refine r_callV hx (As := [.int (-15)]) (rest := []) (st1 := []) (c := 8) (i := (tx (gi μ13 2 0 3))) (TT := T8) (N := 13) MK_X8_addCode rfl wi_X8_addCode we_X8_addCode wm_X2_156 ⟨Nat.le_refl _, Nat.le_refl _⟩ (cX8_addCode hk e15 c16) e15 (Nat.le_of_ble_eq_true rfl) rfl rfl (Nat.le_of_ble_eq_true rfl) rfl dX2_readLaw_125 (fun hb18 => ?_)
    refine r_aloadn hx 0 rfl rfl dX2_readLaw_128 ?_
    refine r_bipush hx cb_24 dX2_readLaw_129 ?_
    obtain ⟨μ20, c19, hf⟩ := f_bd1 hf
    refine r_callV hx (As := [.int 24]) (rest := []) (st1 := []) (c := 2) (i := 0) (TT := T2) (N := 10) MK_X2_take rfl wi_X2_take we_X2_take wm_X2_91 ⟨Nat.le_refl _, Nat.le_refl _⟩ (cX2_take hk e_v0 c19) e_v0 (Nat.le_of_ble_eq_true rfl) rfl rfl (Nat.le_of_ble_eq_true rfl) rfl dX2_readLaw_131 (fun hb21 => ?_)
    exact r_vret hx hf dX2_readLaw_134
  have L23 : ∀ (n : Nat) (v2 : Int32) (μ : Mm) (e_v0 : kex k 2 0), fX2_readLaw_L23 F n v2 μ = some μ' → Gw z k 4 (k, (0, 0), none, none, μ') (0, 0) 23 μ [(0, .ref (kad k 2 0)), (2, .int v2)] [] := by
    intro  n
    induction n with
    | zero =>
      intro v2 μ e_v0 hf
      exact f_no (show (none : Option (Mm)) = _ from hf)
    | succ n ih =>
      intro v2 μ e_v0 hf
      rw [fX2_readLaw_L23] at hf
      refine r_iloadn hx 1 rfl rfl dX2_readLaw_23 ?_
      refine r_iconst hx ci_4 dX2_readLaw_24 ?_
      refine r_icgt (tgt := 115) hx rfl dX2_readLaw_25 (fun q11 => ?_) (fun q11 => ?_)
      · have hf := (f_ite hf).1 q11
        refine r_sub [0] rfl ?_
        exact L115   μ e_v0 hf
      · have hf := (f_ite hf).2 q11
        refine r_aloadn hx 0 rfl rfl dX2_readLaw_28 ?_
        refine r_bipush hx cb_10 dX2_readLaw_29 ?_
        obtain ⟨r24, μ23, c22, hf⟩ := f_bd2 hf
        refine r_callV hx (As := [.int 10]) (rest := []) (st1 := [.int r24]) (c := 2) (i := 0) (TT := T2) (N := 10) MK_X2_isAt rfl wi_X2_isAt we_X2_isAt wm_X2_61 ⟨Nat.le_refl _, Nat.le_refl _⟩ (cX2_isAt hk e_v0 c22) e_v0 (Nat.le_of_ble_eq_true rfl) rfl rfl (Nat.le_of_ble_eq_true rfl) rfl dX2_readLaw_31 (fun hb25 => ?_)
        refine r_ifeq (tgt := 115) hx rfl dX2_readLaw_34 (fun q26 => ?_) (fun q26 => ?_)
        · have hf := (f_ite hf).1 q26
          refine r_sub [0] rfl ?_
          exact L115   μ23 e_v0 hf
        · have hf := (f_ite hf).2 q26
          refine r_iloadn hx 1 rfl rfl dX2_readLaw_37 ?_
          refine r_iconst hx ci_4 dX2_readLaw_38 ?_
          refine r_icne (tgt := 48) hx rfl dX2_readLaw_39 (fun q27 => ?_) (fun q27 => ?_)
          · have hf := (f_ite hf).2 q27
            refine r_aloadn hx 0 rfl rfl dX2_readLaw_48 ?_
            refine r_bipush hx cb_10 dX2_readLaw_49 ?_
            obtain ⟨μ29, c28, hf⟩ := f_bd1 hf
            refine r_callV hx (As := [.int 10]) (rest := []) (st1 := []) (c := 2) (i := 0) (TT := T2) (N := 10) MK_X2_take rfl wi_X2_take we_X2_take wm_X2_91 ⟨Nat.le_refl _, Nat.le_refl _⟩ (cX2_take hk e_v0 c28) e_v0 (Nat.le_of_ble_eq_true rfl) rfl rfl (Nat.le_of_ble_eq_true rfl) rfl dX2_readLaw_51 (fun hb30 => ?_)
            refine r_aloadn hx 0 rfl rfl dX2_readLaw_54 ?_
            obtain ⟨μ32, c31, hf⟩ := f_bd1 hf
            refine r_callV hx (As := []) (rest := []) (st1 := []) (c := 2) (i := 0) (TT := T2) (N := 10) MK_X2_readSum rfl wi_X2_readSum we_X2_readSum wm_X2_149 ⟨Nat.le_refl _, Nat.le_refl _⟩ (cX2_readSum hk e_v0 c31) e_v0 (Nat.le_of_ble_eq_true rfl) rfl rfl (Nat.le_of_ble_eq_true rfl) rfl dX2_readLaw_55 (fun hb33 => ?_)
            refine r_aloadn hx 0 rfl rfl dX2_readLaw_58 ?_
            refine r_bipush hx cb_30 dX2_readLaw_59 ?_
            obtain ⟨μ35, c34, hf⟩ := f_bd1 hf
            refine r_callV hx (As := [.int 30]) (rest := []) (st1 := []) (c := 2) (i := 0) (TT := T2) (N := 10) MK_X2_take rfl wi_X2_take we_X2_take wm_X2_91 ⟨Nat.le_refl _, Nat.le_refl _⟩ (cX2_take hk e_v0 c34) e_v0 (Nat.le_of_ble_eq_true rfl) rfl rfl (Nat.le_of_ble_eq_true rfl) rfl dX2_readLaw_61 (fun hb36 => ?_)
            refine r_aloadn hx 0 rfl rfl dX2_readLaw_64 ?_
            obtain ⟨μ38, c37, hf⟩ := f_bd1 hf
            refine r_callV hx (As := []) (rest := []) (st1 := []) (c := 2) (i := 0) (TT := T2) (N := 10) MK_X2_readSum rfl wi_X2_readSum we_X2_readSum wm_X2_149 ⟨Nat.le_refl _, Nat.le_refl _⟩ (cX2_readSum hk e_v0 c37) e_v0 (Nat.le_of_ble_eq_true rfl) rfl rfl (Nat.le_of_ble_eq_true rfl) rfl dX2_readLaw_65 (fun hb39 => ?_)
            refine r_aloadn hx 0 rfl rfl dX2_readLaw_68 ?_
            refine r_bipush hx cb_11 dX2_readLaw_69 ?_
            obtain ⟨μ41, c40, hf⟩ := f_bd1 hf
            refine r_callV hx (As := [.int 11]) (rest := []) (st1 := []) (c := 2) (i := 0) (TT := T2) (N := 10) MK_X2_take rfl wi_X2_take we_X2_take wm_X2_91 ⟨Nat.le_refl _, Nat.le_refl _⟩ (cX2_take hk e_v0 c40) e_v0 (Nat.le_of_ble_eq_true rfl) rfl rfl (Nat.le_of_ble_eq_true rfl) rfl dX2_readLaw_71 (fun hb42 => ?_)
            refine r_aloadn hx 0 rfl rfl dX2_readLaw_74 ?_
            refine r_getT hx FK2_3 e_v0 (by decide) wf_X2_15 dX2_readLaw_75 (fun e43 => ?_)
            obtain ⟨r46, μ45, c44, hf⟩ := f_bd2 hf
            refine r_callV hx (As := []) (rest := []) (st1 := [.int r46]) (c := 8) (i := (tx (gi μ41 2 0 3))) (TT := T8) (N := 13) MK_X8_addUnless rfl wi_X8_addUnless we_X8_addUnless wm_X2_152 ⟨Nat.le_refl _, Nat.le_refl _⟩ (cX8_addUnless hk e43 c44) e43 (Nat.le_of_ble_eq_true rfl) rfl rfl (Nat.le_of_ble_eq_true rfl) rfl dX2_readLaw_78 (fun hb47 => ?_)
            refine r_istoren (lv' := [(3, .int r46), (0, .ref (kad k 2 0)), (2, .int v2)]) hx rfl (Nat.le_of_ble_eq_true rfl) rfl dX2_readLaw_81 ?_
            refine r_aloadn hx 1 rfl rfl dX2_readLaw_82 ?_
            obtain ⟨μ49, c48, hf⟩ := f_bd1 hf
            refine r_callV hx (As := []) (rest := []) (st1 := []) (c := 2) (i := 0) (TT := T2) (N := 10) MK_X2_readSum rfl wi_X2_readSum we_X2_readSum wm_X2_149 ⟨Nat.le_refl _, Nat.le_refl _⟩ (cX2_readSum hk e_v0 c48) e_v0 (Nat.le_of_ble_eq_true rfl) rfl rfl (Nat.le_of_ble_eq_true rfl) rfl dX2_readLaw_83 (fun hb50 => ?_)
            refine r_aloadn hx 1 rfl rfl dX2_readLaw_86 ?_
            refine r_getT hx FK2_3 e_v0 (by decide) wf_X2_15 dX2_readLaw_87 (fun e51 => ?_)
            refine r_bipush hx cb_m15 dX2_readLaw_90 ?_
            obtain ⟨μ53, c52, hf⟩ := f_bd1 hf
            refine r_callV hx (As := [.int (-15)]) (rest := []) (st1 := []) (c := 8) (i := (tx (gi μ49 2 0 3))) (TT := T8) (N := 13) MK_X8_addCode rfl wi_X8_addCode we_X8_addCode wm_X2_156 ⟨Nat.le_refl _, Nat.le_refl _⟩ (cX8_addCode hk e51 c52) e51 (Nat.le_of_ble_eq_true rfl) rfl rfl (Nat.le_of_ble_eq_true rfl) rfl dX2_readLaw_92 (fun hb54 => ?_)
            refine r_aloadn hx 1 rfl rfl dX2_readLaw_95 ?_
            refine r_getT hx FK2_3 e_v0 (by decide) wf_X2_15 dX2_readLaw_96 (fun e55 => ?_)
            refine r_iloadn hx 0 rfl rfl dX2_readLaw_99 ?_
            obtain ⟨μ57, c56, hf⟩ := f_bd1 hf
            refine r_callV hx (As := [.int r46]) (rest := []) (st1 := []) (c := 8) (i := (tx (gi μ53 2 0 3))) (TT := T8) (N := 13) MK_X8_sendHere rfl wi_X8_sendHere we_X8_sendHere wm_X2_159 ⟨Nat.le_refl _, Nat.le_refl _⟩ (cX8_sendHere hk e55 c56) e55 (Nat.le_of_ble_eq_true rfl) rfl rfl (Nat.le_of_ble_eq_true rfl) rfl dX2_readLaw_100 (fun hb58 => ?_)
            refine r_aloadn hx 1 rfl rfl dX2_readLaw_103 ?_
            refine r_bipush hx cb_12 dX2_readLaw_104 ?_
            obtain ⟨μ60, c59, hf⟩ := f_bd1 hf
            refine r_callV hx (As := [.int 12]) (rest := []) (st1 := []) (c := 2) (i := 0) (TT := T2) (N := 10) MK_X2_take rfl wi_X2_take we_X2_take wm_X2_91 ⟨Nat.le_refl _, Nat.le_refl _⟩ (cX2_take hk e_v0 c59) e_v0 (Nat.le_of_ble_eq_true rfl) rfl rfl (Nat.le_of_ble_eq_true rfl) rfl dX2_readLaw_106 (fun hb61 => ?_)
            refine r_iinc (lv' := [(2, .int (v2 + 1)), (3, .int r46), (0, .ref (kad k 2 0))]) hx 2 rfl (congrArg (fun y => v2 + y) ci_1) (Nat.le_of_ble_eq_true rfl) rfl dX2_readLaw_109 ?_
            refine r_goto (tgt := 23) hx rfl dX2_readLaw_112 ?_
            refine r_sub [2, 0] rfl ?_
            exact ih (v2 + 1) μ60 e_v0 hf
          · have hf := (f_ite hf).1 q27
            refine r_aloadn hx 0 rfl rfl dX2_readLaw_42 ?_
            refine r_iconst hx ci_2 dX2_readLaw_43 ?_
            obtain ⟨μ63, c62, hf⟩ := f_bd1 hf
            refine r_callV hx (As := [.int 2]) (rest := []) (st1 := []) (c := 2) (i := 0) (TT := T2) (N := 10) MK_X2_fail rfl wi_X2_fail we_X2_fail wm_X2_65 ⟨Nat.le_refl _, Nat.le_refl _⟩ (cX2_fail hk e_v0 c62) e_v0 (Nat.le_of_ble_eq_true rfl) rfl rfl (Nat.le_of_ble_eq_true rfl) rfl dX2_readLaw_44 (fun hb64 => ?_)
            exact r_vret hx hf dX2_readLaw_47
  unfold fX2_readLaw at hf
  refine r_aloadn hx 0 rfl rfl dX2_readLaw_0 ?_
  refine r_iloadn hx 1 rfl rfl dX2_readLaw_1 ?_
  obtain ⟨μ2, c1, hf⟩ := f_bd1 hf
  refine r_callV hx (As := [.int a1]) (rest := []) (st1 := []) (c := 2) (i := 0) (TT := T2) (N := 10) MK_X2_take rfl wi_X2_take we_X2_take wm_X2_91 ⟨Nat.le_refl _, Nat.le_refl _⟩ (cX2_take hk e_this c1) e_this (Nat.le_of_ble_eq_true rfl) rfl rfl (Nat.le_of_ble_eq_true rfl) rfl dX2_readLaw_2 (fun hb3 => ?_)
  refine r_aloadn hx 0 rfl rfl dX2_readLaw_5 ?_
  refine r_bipush hx cb_25 dX2_readLaw_6 ?_
  obtain ⟨μ5, c4, hf⟩ := f_bd1 hf
  refine r_callV hx (As := [.int 25]) (rest := []) (st1 := []) (c := 2) (i := 0) (TT := T2) (N := 10) MK_X2_take rfl wi_X2_take we_X2_take wm_X2_91 ⟨Nat.le_refl _, Nat.le_refl _⟩ (cX2_take hk e_this c4) e_this (Nat.le_of_ble_eq_true rfl) rfl rfl (Nat.le_of_ble_eq_true rfl) rfl dX2_readLaw_8 (fun hb6 => ?_)
  refine r_aloadn hx 0 rfl rfl dX2_readLaw_11 ?_
  refine r_getT hx FK2_3 e_this (by decide) wf_X2_15 dX2_readLaw_12 (fun e7 => ?_)
  refine r_iloadn hx 1 rfl rfl dX2_readLaw_15 ?_
  refine r_iconst hx ci_2 dX2_readLaw_16 ?_
  refine r_isub hx dX2_readLaw_17 ?_
  obtain ⟨μ9, c8, hf⟩ := f_bd1 hf
  refine r_callV hx (As := [.int (a1 - 2)]) (rest := []) (st1 := []) (c := 8) (i := (tx (gi μ5 2 0 3))) (TT := T8) (N := 13) MK_X8_beginLaw rfl wi_X8_beginLaw we_X8_beginLaw wm_X2_146 ⟨Nat.le_refl _, Nat.le_refl _⟩ (cX8_beginLaw hk e7 c8) e7 (Nat.le_of_ble_eq_true rfl) rfl rfl (Nat.le_of_ble_eq_true rfl) rfl dX2_readLaw_18 (fun hb10 => ?_)
  refine r_iconst hx ci_0 dX2_readLaw_21 ?_
  refine r_istoren (lv' := [(2, .int 0), (0, .ref (kad k 2 0)), (1, .int a1)]) hx rfl (Nat.le_of_ble_eq_true rfl) rfl dX2_readLaw_22 ?_
  refine r_sub [1, 0] rfl ?_
  exact L23 F 0 μ9 e_this hf
theorem dX2_readSeed_0 : decode bX2_readSeed 0 = .ok (.aload_n 0, 1) := by decide +kernel
theorem dX2_readSeed_1 : decode bX2_readSeed 1 = .ok (.bipush 6, 2) := by decide +kernel
theorem dX2_readSeed_3 : decode bX2_readSeed 3 = .ok (.invokevirtual 91, 3) := by decide +kernel
theorem dX2_readSeed_6 : decode bX2_readSeed 6 = .ok (.aload_n 0, 1) := by decide +kernel
theorem dX2_readSeed_7 : decode bX2_readSeed 7 = .ok (.getfield 15, 3) := by decide +kernel
theorem dX2_readSeed_10 : decode bX2_readSeed 10 = .ok (.aload_n 0, 1) := by decide +kernel
theorem dX2_readSeed_11 : decode bX2_readSeed 11 = .ok (.getfield 9, 3) := by decide +kernel
theorem dX2_readSeed_14 : decode bX2_readSeed 14 = .ok (.getfield 137, 3) := by decide +kernel
theorem dX2_readSeed_17 : decode bX2_readSeed 17 = .ok (.putfield 143, 3) := by decide +kernel
theorem dX2_readSeed_20 : decode bX2_readSeed 20 = .ok (.aload_n 0, 1) := by decide +kernel
theorem dX2_readSeed_21 : decode bX2_readSeed 21 = .ok (.bipush 23, 2) := by decide +kernel
theorem dX2_readSeed_23 : decode bX2_readSeed 23 = .ok (.invokevirtual 91, 3) := by decide +kernel
theorem dX2_readSeed_26 : decode bX2_readSeed 26 = .ok (.aload_n 0, 1) := by decide +kernel
theorem dX2_readSeed_27 : decode bX2_readSeed 27 = .ok (.bipush 24, 2) := by decide +kernel
theorem dX2_readSeed_29 : decode bX2_readSeed 29 = .ok (.invokevirtual 91, 3) := by decide +kernel
theorem dX2_readSeed_32 : decode bX2_readSeed 32 = .ok (.return_, 1) := by decide +kernel
set_option maxRecDepth 20000 in
set_option maxHeartbeats 4000000 in
theorem cX2_readSeed {l : Launch} {k : Kx} {F : Nat} {μ μ' : Mm} (hk : kok k) (e_this : kex k 2 0) (hf : fX2_readSeed F μ = some μ') : MM l k 2 yX2_readSeed bX2_readSeed 1 none [.ref (kad k 2 0)] μ none μ' := by
  refine MM.of (lv := [(0, .ref (kad k 2 0))]) (plainFor_of_name (by decide)) hk (Nat.le_of_ble_eq_true rfl) rfl (fun z hl hx => ?_)
  subst hl
  have hx : Ok z k bX2_readSeed 1 "RopeDance$Reader" none 2 (0, 0) := hx
  unfold fX2_readSeed at hf
  refine r_aloadn hx 0 rfl rfl dX2_readSeed_0 ?_
  refine r_bipush hx cb_6 dX2_readSeed_1 ?_
  obtain ⟨μ2, c1, hf⟩ := f_bd1 hf
  refine r_callV hx (As := [.int 6]) (rest := []) (st1 := []) (c := 2) (i := 0) (TT := T2) (N := 10) MK_X2_take rfl wi_X2_take we_X2_take wm_X2_91 ⟨Nat.le_refl _, Nat.le_refl _⟩ (cX2_take hk e_this c1) e_this (Nat.le_of_ble_eq_true rfl) rfl rfl (Nat.le_of_ble_eq_true rfl) rfl dX2_readSeed_3 (fun hb3 => ?_)
  refine r_aloadn hx 0 rfl rfl dX2_readSeed_6 ?_
  refine r_getT hx FK2_3 e_this (by decide) wf_X2_15 dX2_readSeed_7 (fun e4 => ?_)
  refine r_aloadn hx 0 rfl rfl dX2_readSeed_10 ?_
  refine r_getR hx (c' := 7) (i' := 0) FK2_2 e_this rfl wf_X2_9 dX2_readSeed_11 (fun e5 => ?_)
  refine r_getI hx FK7_4 e5 wf_X2_137 dX2_readSeed_14 ?_
  refine r_putI (ty := .int) hx FK8_2 (fun T N h => by cases h; rfl) e4 wf_X2_143 (by decide +kernel) rfl rfl dX2_readSeed_17 ?_
  refine r_aloadn hx 0 rfl rfl dX2_readSeed_20 ?_
  refine r_bipush hx cb_23 dX2_readSeed_21 ?_
  obtain ⟨μ7, c6, hf⟩ := f_bd1 hf
  refine r_callV hx (As := [.int 23]) (rest := []) (st1 := []) (c := 2) (i := 0) (TT := T2) (N := 10) MK_X2_take rfl wi_X2_take we_X2_take wm_X2_91 ⟨Nat.le_refl _, Nat.le_refl _⟩ (cX2_take hk e_this c6) e_this (Nat.le_of_ble_eq_true rfl) rfl rfl (Nat.le_of_ble_eq_true rfl) rfl dX2_readSeed_23 (fun hb8 => ?_)
  refine r_aloadn hx 0 rfl rfl dX2_readSeed_26 ?_
  refine r_bipush hx cb_24 dX2_readSeed_27 ?_
  obtain ⟨μ10, c9, hf⟩ := f_bd1 hf
  refine r_callV hx (As := [.int 24]) (rest := []) (st1 := []) (c := 2) (i := 0) (TT := T2) (N := 10) MK_X2_take rfl wi_X2_take we_X2_take wm_X2_91 ⟨Nat.le_refl _, Nat.le_refl _⟩ (cX2_take hk e_this c9) e_this (Nat.le_of_ble_eq_true rfl) rfl rfl (Nat.le_of_ble_eq_true rfl) rfl dX2_readSeed_29 (fun hb11 => ?_)
  exact r_vret hx hf dX2_readSeed_32
theorem dX2_readTell_0 : decode bX2_readTell 0 = .ok (.iload_n 1, 1) := by decide +kernel
theorem dX2_readTell_1 : decode bX2_readTell 1 = .ok (.ifCond .ne 18, 3) := by decide +kernel
theorem dX2_readTell_4 : decode bX2_readTell 4 = .ok (.aload_n 0, 1) := by decide +kernel
theorem dX2_readTell_5 : decode bX2_readTell 5 = .ok (.iload_n 1, 1) := by decide +kernel
theorem dX2_readTell_6 : decode bX2_readTell 6 = .ok (.aload_n 0, 1) := by decide +kernel
theorem dX2_readTell_7 : decode bX2_readTell 7 = .ok (.getfield 15, 3) := by decide +kernel
theorem dX2_readTell_10 : decode bX2_readTell 10 = .ok (.invokevirtual 74, 3) := by decide +kernel
theorem dX2_readTell_13 : decode bX2_readTell 13 = .ok (.invokevirtual 78, 3) := by decide +kernel
theorem dX2_readTell_16 : decode bX2_readTell 16 = .ok (.goto 59, 3) := by decide +kernel
theorem dX2_readTell_19 : decode bX2_readTell 19 = .ok (.iload_n 1, 1) := by decide +kernel
theorem dX2_readTell_20 : decode bX2_readTell 20 = .ok (.iconst 1, 1) := by decide +kernel
theorem dX2_readTell_21 : decode bX2_readTell 21 = .ok (.if_icmp .ne 18, 3) := by decide +kernel
theorem dX2_readTell_24 : decode bX2_readTell 24 = .ok (.aload_n 0, 1) := by decide +kernel
theorem dX2_readTell_25 : decode bX2_readTell 25 = .ok (.iload_n 1, 1) := by decide +kernel
theorem dX2_readTell_26 : decode bX2_readTell 26 = .ok (.aload_n 0, 1) := by decide +kernel
theorem dX2_readTell_27 : decode bX2_readTell 27 = .ok (.getfield 15, 3) := by decide +kernel
theorem dX2_readTell_30 : decode bX2_readTell 30 = .ok (.invokevirtual 82, 3) := by decide +kernel
theorem dX2_readTell_33 : decode bX2_readTell 33 = .ok (.invokevirtual 78, 3) := by decide +kernel
theorem dX2_readTell_36 : decode bX2_readTell 36 = .ok (.goto 39, 3) := by decide +kernel
theorem dX2_readTell_39 : decode bX2_readTell 39 = .ok (.iload_n 1, 1) := by decide +kernel
theorem dX2_readTell_40 : decode bX2_readTell 40 = .ok (.iconst 2, 1) := by decide +kernel
theorem dX2_readTell_41 : decode bX2_readTell 41 = .ok (.if_icmp .lt 16, 3) := by decide +kernel
theorem dX2_readTell_44 : decode bX2_readTell 44 = .ok (.iload_n 1, 1) := by decide +kernel
theorem dX2_readTell_45 : decode bX2_readTell 45 = .ok (.iconst 5, 1) := by decide +kernel
theorem dX2_readTell_46 : decode bX2_readTell 46 = .ok (.if_icmp .gt 11, 3) := by decide +kernel
theorem dX2_readTell_49 : decode bX2_readTell 49 = .ok (.aload_n 0, 1) := by decide +kernel
theorem dX2_readTell_50 : decode bX2_readTell 50 = .ok (.iload_n 1, 1) := by decide +kernel
theorem dX2_readTell_51 : decode bX2_readTell 51 = .ok (.invokevirtual 85, 3) := by decide +kernel
theorem dX2_readTell_54 : decode bX2_readTell 54 = .ok (.goto 21, 3) := by decide +kernel
theorem dX2_readTell_57 : decode bX2_readTell 57 = .ok (.iload_n 1, 1) := by decide +kernel
theorem dX2_readTell_58 : decode bX2_readTell 58 = .ok (.bipush 6, 2) := by decide +kernel
theorem dX2_readTell_60 : decode bX2_readTell 60 = .ok (.if_icmp .ne 10, 3) := by decide +kernel
theorem dX2_readTell_63 : decode bX2_readTell 63 = .ok (.aload_n 0, 1) := by decide +kernel
theorem dX2_readTell_64 : decode bX2_readTell 64 = .ok (.invokevirtual 88, 3) := by decide +kernel
theorem dX2_readTell_67 : decode bX2_readTell 67 = .ok (.goto 8, 3) := by decide +kernel
theorem dX2_readTell_70 : decode bX2_readTell 70 = .ok (.aload_n 0, 1) := by decide +kernel
theorem dX2_readTell_71 : decode bX2_readTell 71 = .ok (.iconst 1, 1) := by decide +kernel
theorem dX2_readTell_72 : decode bX2_readTell 72 = .ok (.invokevirtual 65, 3) := by decide +kernel
theorem dX2_readTell_75 : decode bX2_readTell 75 = .ok (.return_, 1) := by decide +kernel
set_option maxRecDepth 20000 in
set_option maxHeartbeats 4000000 in
theorem cX2_readTell {l : Launch} {k : Kx} {F : Nat} {a1 : Int32} {μ μ' : Mm} (hk : kok k) (e_this : kex k 2 0) (hf : fX2_readTell F a1 μ = some μ') : MM l k 5 yX2_readTell bX2_readTell 2 none [.ref (kad k 2 0), .int a1] μ none μ' := by
  refine MM.of (lv := [(0, .ref (kad k 2 0)), (1, .int a1)]) (plainFor_of_name (by decide)) hk (Nat.le_of_ble_eq_true rfl) rfl (fun z hl hx => ?_)
  subst hl
  have hx : Ok z k bX2_readTell 2 "RopeDance$Reader" none 5 (0, 0) := hx
  have L57 : ∀ (v1 : Int32) (μ : Mm) (e_v0 : kex k 2 0), fX2_readTell_L57 F v1 μ = some μ' → Gw z k 2 (k, (0, 0), none, none, μ') (0, 0) 57 μ [(0, .ref (kad k 2 0)), (1, .int v1)] [] := by
    intro  v1 μ e_v0 hf
    unfold fX2_readTell_L57 at hf
    refine r_iloadn hx 1 rfl rfl dX2_readTell_57 ?_
    refine r_bipush hx cb_6 dX2_readTell_58 ?_
    refine r_icne (tgt := 70) hx rfl dX2_readTell_60 (fun q4 => ?_) (fun q4 => ?_)
    · have hf := (f_ite hf).2 q4
      refine r_aloadn hx 0 rfl rfl dX2_readTell_70 ?_
      refine r_iconst hx ci_1 dX2_readTell_71 ?_
      obtain ⟨μ6, c5, hf⟩ := f_bd1 hf
      refine r_callV hx (As := [.int 1]) (rest := []) (st1 := []) (c := 2) (i := 0) (TT := T2) (N := 10) MK_X2_fail rfl wi_X2_fail we_X2_fail wm_X2_65 ⟨Nat.le_refl _, Nat.le_refl _⟩ (cX2_fail hk e_v0 c5) e_v0 (Nat.le_of_ble_eq_true rfl) rfl rfl (Nat.le_of_ble_eq_true rfl) rfl dX2_readTell_72 (fun hb7 => ?_)
      exact r_vret hx hf dX2_readTell_75
    · have hf := (f_ite hf).1 q4
      refine r_aloadn hx 0 rfl rfl dX2_readTell_63 ?_
      obtain ⟨μ9, c8, hf⟩ := f_bd1 hf
      refine r_callV hx (As := []) (rest := []) (st1 := []) (c := 2) (i := 0) (TT := T2) (N := 10) MK_X2_readSeed rfl wi_X2_readSeed we_X2_readSeed wm_X2_88 ⟨Nat.le_refl _, Nat.le_refl _⟩ (cX2_readSeed hk e_v0 c8) e_v0 (Nat.le_of_ble_eq_true rfl) rfl rfl (Nat.le_of_ble_eq_true rfl) rfl dX2_readTell_64 (fun hb10 => ?_)
      refine r_goto (tgt := 75) hx rfl dX2_readTell_67 ?_
      exact r_vret hx hf dX2_readTell_75
  unfold fX2_readTell at hf
  refine r_iloadn hx 1 rfl rfl dX2_readTell_0 ?_
  refine r_ifne (tgt := 19) hx rfl dX2_readTell_1 (fun q1 => ?_) (fun q1 => ?_)
  · have hf := (f_ite hf).2 q1
    refine r_iloadn hx 1 rfl rfl dX2_readTell_19 ?_
    refine r_iconst hx ci_1 dX2_readTell_20 ?_
    refine r_icne (tgt := 39) hx rfl dX2_readTell_21 (fun q2 => ?_) (fun q2 => ?_)
    · have hf := (f_ite hf).2 q2
      refine r_iloadn hx 1 rfl rfl dX2_readTell_39 ?_
      refine r_iconst hx ci_2 dX2_readTell_40 ?_
      refine r_iclt (tgt := 57) hx rfl dX2_readTell_41 (fun q3 => ?_) (fun q3 => ?_)
      · have hf := (f_ite hf).1 q3
        refine r_sub [0, 1] rfl ?_
        exact L57  a1 μ e_this hf
      · have hf := (f_ite hf).2 q3
        refine r_iloadn hx 1 rfl rfl dX2_readTell_44 ?_
        refine r_iconst hx ci_5 dX2_readTell_45 ?_
        refine r_icgt (tgt := 57) hx rfl dX2_readTell_46 (fun q11 => ?_) (fun q11 => ?_)
        · have hf := (f_ite hf).1 q11
          refine r_sub [0, 1] rfl ?_
          exact L57  a1 μ e_this hf
        · have hf := (f_ite hf).2 q11
          refine r_aloadn hx 0 rfl rfl dX2_readTell_49 ?_
          refine r_iloadn hx 1 rfl rfl dX2_readTell_50 ?_
          obtain ⟨μ13, c12, hf⟩ := f_bd1 hf
          refine r_callV hx (As := [.int a1]) (rest := []) (st1 := []) (c := 2) (i := 0) (TT := T2) (N := 10) MK_X2_readLaw rfl wi_X2_readLaw we_X2_readLaw wm_X2_85 ⟨Nat.le_refl _, Nat.le_refl _⟩ (cX2_readLaw hk e_this c12) e_this (Nat.le_of_ble_eq_true rfl) rfl rfl (Nat.le_of_ble_eq_true rfl) rfl dX2_readTell_51 (fun hb14 => ?_)
          refine r_goto (tgt := 75) hx rfl dX2_readTell_54 ?_
          exact r_vret hx hf dX2_readTell_75
    · have hf := (f_ite hf).1 q2
      refine r_aloadn hx 0 rfl rfl dX2_readTell_24 ?_
      refine r_iloadn hx 1 rfl rfl dX2_readTell_25 ?_
      refine r_aloadn hx 0 rfl rfl dX2_readTell_26 ?_
      refine r_getT hx FK2_3 e_this (by decide) wf_X2_15 dX2_readTell_27 (fun e15 => ?_)
      obtain ⟨r18, μ17, c16, hf⟩ := f_bd2 hf
      refine r_callV hx (As := []) (rest := [.int a1, .ref (kad k 2 0)]) (st1 := [rp k 3 r18, .int a1, .ref (kad k 2 0)]) (c := 8) (i := (tx (gi μ 2 0 3))) (TT := T8) (N := 13) MK_X8_nextFigure rfl wi_X8_nextFigure we_X8_nextFigure wm_X2_82 ⟨Nat.le_refl _, Nat.le_refl _⟩ (cX8_nextFigure hk e15 c16) e15 (Nat.le_of_ble_eq_true rfl) rfl rfl (Nat.le_of_ble_eq_true rfl) rfl dX2_readTell_30 (fun hb19 => ?_)
      cases r18 with
      | none =>
        have hf := f_on hf
        obtain ⟨μ23, c22, hf⟩ := f_bd1 hf
        refine r_callV hx (As := [.int a1, .null]) (rest := []) (st1 := []) (c := 2) (i := 0) (TT := T2) (N := 10) MK_X2_readRow rfl wi_X2_readRow we_X2_readRow wm_X2_78 ⟨Nat.le_refl _, Nat.le_refl _⟩ (cX2_readRowN hk e_this c22) e_this (Nat.le_of_ble_eq_true rfl) rfl rfl (Nat.le_of_ble_eq_true rfl) rfl dX2_readTell_33 (fun hb24 => ?_)
        refine r_goto (tgt := 75) hx rfl dX2_readTell_36 ?_
        exact r_vret hx hf dX2_readTell_75
      | some i20 =>
        have hf := f_os hf
        have e21 : kex k 3 i20 := xX8_nextFigure hk e15 c16
        obtain ⟨μ26, c25, hf⟩ := f_bd1 hf
        refine r_callV hx (As := [.int a1, .ref (kad k 3 i20)]) (rest := []) (st1 := []) (c := 2) (i := 0) (TT := T2) (N := 10) MK_X2_readRow rfl wi_X2_readRow we_X2_readRow wm_X2_78 ⟨Nat.le_refl _, Nat.le_refl _⟩ (cX2_readRowS hk e_this e21 c25) e_this (Nat.le_of_ble_eq_true rfl) rfl rfl (Nat.le_of_ble_eq_true rfl) rfl dX2_readTell_33 (fun hb27 => ?_)
        refine r_goto (tgt := 75) hx rfl dX2_readTell_36 ?_
        exact r_vret hx hf dX2_readTell_75
  · have hf := (f_ite hf).1 q1
    refine r_aloadn hx 0 rfl rfl dX2_readTell_4 ?_
    refine r_iloadn hx 1 rfl rfl dX2_readTell_5 ?_
    refine r_aloadn hx 0 rfl rfl dX2_readTell_6 ?_
    refine r_getT hx FK2_3 e_this (by decide) wf_X2_15 dX2_readTell_7 (fun e28 => ?_)
    obtain ⟨r31, μ30, c29, hf⟩ := f_bd2 hf
    refine r_callV hx (As := []) (rest := [.int a1, .ref (kad k 2 0)]) (st1 := [rp k 3 r31, .int a1, .ref (kad k 2 0)]) (c := 8) (i := (tx (gi μ 2 0 3))) (TT := T8) (N := 13) MK_X8_nextSquare rfl wi_X8_nextSquare we_X8_nextSquare wm_X2_74 ⟨Nat.le_refl _, Nat.le_refl _⟩ (cX8_nextSquare hk e28 c29) e28 (Nat.le_of_ble_eq_true rfl) rfl rfl (Nat.le_of_ble_eq_true rfl) rfl dX2_readTell_10 (fun hb32 => ?_)
    cases r31 with
    | none =>
      have hf := f_on hf
      obtain ⟨μ36, c35, hf⟩ := f_bd1 hf
      refine r_callV hx (As := [.int a1, .null]) (rest := []) (st1 := []) (c := 2) (i := 0) (TT := T2) (N := 10) MK_X2_readRow rfl wi_X2_readRow we_X2_readRow wm_X2_78 ⟨Nat.le_refl _, Nat.le_refl _⟩ (cX2_readRowN hk e_this c35) e_this (Nat.le_of_ble_eq_true rfl) rfl rfl (Nat.le_of_ble_eq_true rfl) rfl dX2_readTell_13 (fun hb37 => ?_)
      refine r_goto (tgt := 75) hx rfl dX2_readTell_16 ?_
      exact r_vret hx hf dX2_readTell_75
    | some i33 =>
      have hf := f_os hf
      have e34 : kex k 3 i33 := xX8_nextSquare hk e28 c29
      obtain ⟨μ39, c38, hf⟩ := f_bd1 hf
      refine r_callV hx (As := [.int a1, .ref (kad k 3 i33)]) (rest := []) (st1 := []) (c := 2) (i := 0) (TT := T2) (N := 10) MK_X2_readRow rfl wi_X2_readRow we_X2_readRow wm_X2_78 ⟨Nat.le_refl _, Nat.le_refl _⟩ (cX2_readRowS hk e_this e34 c38) e_this (Nat.le_of_ble_eq_true rfl) rfl rfl (Nat.le_of_ble_eq_true rfl) rfl dX2_readTell_13 (fun hb40 => ?_)
      refine r_goto (tgt := 75) hx rfl dX2_readTell_16 ?_
      exact r_vret hx hf dX2_readTell_75
theorem dX2_readInto_0 : decode bX2_readInto 0 = .ok (.aload_n 0, 1) := by decide +kernel
theorem dX2_readInto_1 : decode bX2_readInto 1 = .ok (.aload_n 1, 1) := by decide +kernel
theorem dX2_readInto_2 : decode bX2_readInto 2 = .ok (.putfield 15, 3) := by decide +kernel
theorem dX2_readInto_5 : decode bX2_readInto 5 = .ok (.aload_n 0, 1) := by decide +kernel
theorem dX2_readInto_6 : decode bX2_readInto 6 = .ok (.iconst 0, 1) := by decide +kernel
theorem dX2_readInto_7 : decode bX2_readInto 7 = .ok (.putfield 34, 3) := by decide +kernel
theorem dX2_readInto_10 : decode bX2_readInto 10 = .ok (.aload_n 0, 1) := by decide +kernel
theorem dX2_readInto_11 : decode bX2_readInto 11 = .ok (.iconst (-1), 1) := by decide +kernel
theorem dX2_readInto_12 : decode bX2_readInto 12 = .ok (.putfield 30, 3) := by decide +kernel
theorem dX2_readInto_15 : decode bX2_readInto 15 = .ok (.aload_n 0, 1) := by decide +kernel
theorem dX2_readInto_16 : decode bX2_readInto 16 = .ok (.iconst 0, 1) := by decide +kernel
theorem dX2_readInto_17 : decode bX2_readInto 17 = .ok (.putfield 37, 3) := by decide +kernel
theorem dX2_readInto_20 : decode bX2_readInto 20 = .ok (.aload_n 0, 1) := by decide +kernel
theorem dX2_readInto_21 : decode bX2_readInto 21 = .ok (.iconst (-1), 1) := by decide +kernel
theorem dX2_readInto_22 : decode bX2_readInto 22 = .ok (.putfield 40, 3) := by decide +kernel
theorem dX2_readInto_25 : decode bX2_readInto 25 = .ok (.aload_n 0, 1) := by decide +kernel
theorem dX2_readInto_26 : decode bX2_readInto 26 = .ok (.getfield 15, 3) := by decide +kernel
theorem dX2_readInto_29 : decode bX2_readInto 29 = .ok (.invokevirtual 43, 3) := by decide +kernel
theorem dX2_readInto_32 : decode bX2_readInto 32 = .ok (.aload_n 0, 1) := by decide +kernel
theorem dX2_readInto_33 : decode bX2_readInto 33 = .ok (.getfield 9, 3) := by decide +kernel
theorem dX2_readInto_36 : decode bX2_readInto 36 = .ok (.invokevirtual 48, 3) := by decide +kernel
theorem dX2_readInto_39 : decode bX2_readInto 39 = .ok (.iconst 0, 1) := by decide +kernel
theorem dX2_readInto_40 : decode bX2_readInto 40 = .ok (.istore_n 2, 1) := by decide +kernel
theorem dX2_readInto_41 : decode bX2_readInto 41 = .ok (.iload_n 2, 1) := by decide +kernel
theorem dX2_readInto_42 : decode bX2_readInto 42 = .ok (.sipush 400, 3) := by decide +kernel
theorem dX2_readInto_45 : decode bX2_readInto 45 = .ok (.if_icmp .gt 39, 3) := by decide +kernel
theorem dX2_readInto_48 : decode bX2_readInto 48 = .ok (.aload_n 0, 1) := by decide +kernel
theorem dX2_readInto_49 : decode bX2_readInto 49 = .ok (.getfield 34, 3) := by decide +kernel
theorem dX2_readInto_52 : decode bX2_readInto 52 = .ok (.ifCond .ne 32, 3) := by decide +kernel
theorem dX2_readInto_55 : decode bX2_readInto 55 = .ok (.aload_n 0, 1) := by decide +kernel
theorem dX2_readInto_56 : decode bX2_readInto 56 = .ok (.getfield 9, 3) := by decide +kernel
theorem dX2_readInto_59 : decode bX2_readInto 59 = .ok (.getfield 53, 3) := by decide +kernel
theorem dX2_readInto_62 : decode bX2_readInto 62 = .ok (.bipush 33, 2) := by decide +kernel
theorem dX2_readInto_64 : decode bX2_readInto 64 = .ok (.if_icmp .eq 20, 3) := by decide +kernel
theorem dX2_readInto_67 : decode bX2_readInto 67 = .ok (.aload_n 0, 1) := by decide +kernel
theorem dX2_readInto_68 : decode bX2_readInto 68 = .ok (.aload_n 0, 1) := by decide +kernel
theorem dX2_readInto_69 : decode bX2_readInto 69 = .ok (.getfield 9, 3) := by decide +kernel
theorem dX2_readInto_72 : decode bX2_readInto 72 = .ok (.getfield 53, 3) := by decide +kernel
theorem dX2_readInto_75 : decode bX2_readInto 75 = .ok (.invokevirtual 56, 3) := by decide +kernel
theorem dX2_readInto_78 : decode bX2_readInto 78 = .ok (.iinc 2 1, 3) := by decide +kernel
theorem dX2_readInto_81 : decode bX2_readInto 81 = .ok (.goto (-40), 3) := by decide +kernel
theorem dX2_readInto_84 : decode bX2_readInto 84 = .ok (.aload_n 0, 1) := by decide +kernel
theorem dX2_readInto_85 : decode bX2_readInto 85 = .ok (.getfield 34, 3) := by decide +kernel
theorem dX2_readInto_88 : decode bX2_readInto 88 = .ok (.ifCond .ne 19, 3) := by decide +kernel
theorem dX2_readInto_91 : decode bX2_readInto 91 = .ok (.aload_n 0, 1) := by decide +kernel
theorem dX2_readInto_92 : decode bX2_readInto 92 = .ok (.aload_n 0, 1) := by decide +kernel
theorem dX2_readInto_93 : decode bX2_readInto 93 = .ok (.getfield 37, 3) := by decide +kernel
theorem dX2_readInto_96 : decode bX2_readInto 96 = .ok (.putfield 34, 3) := by decide +kernel
theorem dX2_readInto_99 : decode bX2_readInto 99 = .ok (.aload_n 0, 1) := by decide +kernel
theorem dX2_readInto_100 : decode bX2_readInto 100 = .ok (.aload_n 0, 1) := by decide +kernel
theorem dX2_readInto_101 : decode bX2_readInto 101 = .ok (.getfield 40, 3) := by decide +kernel
theorem dX2_readInto_104 : decode bX2_readInto 104 = .ok (.putfield 30, 3) := by decide +kernel
theorem dX2_readInto_107 : decode bX2_readInto 107 = .ok (.return_, 1) := by decide +kernel
set_option maxRecDepth 20000 in
set_option maxHeartbeats 4000000 in
theorem cX2_readInto {l : Launch} {k : Kx} {F : Nat} {a1 : Nat} {μ μ' : Mm} (hk : kok k) (e_this : kex k 2 0) (e_a1 : kex k 8 a1) (hf : fX2_readInto F a1 μ = some μ') : MM l k 8 yX2_readInto bX2_readInto 3 none [.ref (kad k 2 0), .ref (kad k 8 a1)] μ none μ' := by
  refine MM.of (lv := [(0, .ref (kad k 2 0)), (1, .ref (kad k 8 a1))]) (plainFor_of_name (by decide)) hk (Nat.le_of_ble_eq_true rfl) rfl (fun z hl hx => ?_)
  subst hl
  have hx : Ok z k bX2_readInto 3 "RopeDance$Reader" none 8 (0, 0) := hx
  have L84 : ∀ (μ : Mm) (e_v0 : kex k 2 0), fX2_readInto_L84 F  μ = some μ' → Gw z k 3 (k, (0, 0), none, none, μ') (0, 0) 84 μ [(0, .ref (kad k 2 0))] [] := by
    intro  μ e_v0 hf
    unfold fX2_readInto_L84 at hf
    refine r_aloadn hx 0 rfl rfl dX2_readInto_84 ?_
    refine r_getI hx FK2_0 e_v0 wf_X2_34 dX2_readInto_85 ?_
    refine r_ifne (tgt := 107) hx rfl dX2_readInto_88 (fun q10 => ?_) (fun q10 => ?_)
    · have hf := (f_ite hf).2 q10
      exact r_vret hx hf dX2_readInto_107
    · have hf := (f_ite hf).1 q10
      refine r_aloadn hx 0 rfl rfl dX2_readInto_91 ?_
      refine r_aloadn hx 0 rfl rfl dX2_readInto_92 ?_
      refine r_getI hx FK2_4 e_v0 wf_X2_37 dX2_readInto_93 ?_
      refine r_putI (ty := .int) hx FK2_0 (fun T N h => by cases h; rfl) e_v0 wf_X2_34 (by decide +kernel) rfl rfl dX2_readInto_96 ?_
      refine r_aloadn hx 0 rfl rfl dX2_readInto_99 ?_
      refine r_aloadn hx 0 rfl rfl dX2_readInto_100 ?_
      refine r_getI hx FK2_5 e_v0 wf_X2_40 dX2_readInto_101 ?_
      refine r_putI (ty := .int) hx FK2_1 (fun T N h => by cases h; rfl) e_v0 wf_X2_30 (by decide +kernel) rfl rfl dX2_readInto_104 ?_
      exact r_vret hx hf dX2_readInto_107
  have L41 : ∀ (n : Nat) (v2 : Int32) (μ : Mm) (e_v0 : kex k 2 0), fX2_readInto_L41 F n v2 μ = some μ' → Gw z k 3 (k, (0, 0), none, none, μ') (0, 0) 41 μ [(0, .ref (kad k 2 0)), (2, .int v2)] [] := by
    intro  n
    induction n with
    | zero =>
      intro v2 μ e_v0 hf
      exact f_no (show (none : Option (Mm)) = _ from hf)
    | succ n ih =>
      intro v2 μ e_v0 hf
      rw [fX2_readInto_L41] at hf
      refine r_iloadn hx 1 rfl rfl dX2_readInto_41 ?_
      refine r_sipush hx cs_400 dX2_readInto_42 ?_
      refine r_icgt (tgt := 84) hx rfl dX2_readInto_45 (fun q9 => ?_) (fun q9 => ?_)
      · have hf := (f_ite hf).1 q9
        refine r_sub [0] rfl ?_
        exact L84   μ e_v0 hf
      · have hf := (f_ite hf).2 q9
        refine r_aloadn hx 0 rfl rfl dX2_readInto_48 ?_
        refine r_getI hx FK2_0 e_v0 wf_X2_34 dX2_readInto_49 ?_
        refine r_ifne (tgt := 84) hx rfl dX2_readInto_52 (fun q11 => ?_) (fun q11 => ?_)
        · have hf := (f_ite hf).2 q11
          refine r_sub [0] rfl ?_
          exact L84   μ e_v0 hf
        · have hf := (f_ite hf).1 q11
          refine r_aloadn hx 0 rfl rfl dX2_readInto_55 ?_
          refine r_getR hx (c' := 7) (i' := 0) FK2_2 e_v0 rfl wf_X2_9 dX2_readInto_56 (fun e12 => ?_)
          refine r_getI hx FK7_2 e12 wf_X2_53 dX2_readInto_59 ?_
          refine r_bipush hx cb_33 dX2_readInto_62 ?_
          refine r_iceq (tgt := 84) hx rfl dX2_readInto_64 (fun q13 => ?_) (fun q13 => ?_)
          · have hf := (f_ite hf).1 q13
            refine r_sub [0] rfl ?_
            exact L84   μ e_v0 hf
          · have hf := (f_ite hf).2 q13
            refine r_aloadn hx 0 rfl rfl dX2_readInto_67 ?_
            refine r_aloadn hx 0 rfl rfl dX2_readInto_68 ?_
            refine r_getR hx (c' := 7) (i' := 0) FK2_2 e_v0 rfl wf_X2_9 dX2_readInto_69 (fun e14 => ?_)
            refine r_getI hx FK7_2 e14 wf_X2_53 dX2_readInto_72 ?_
            obtain ⟨μ16, c15, hf⟩ := f_bd1 hf
            refine r_callV hx (As := [.int (gi μ 7 0 2)]) (rest := []) (st1 := []) (c := 2) (i := 0) (TT := T2) (N := 10) MK_X2_readTell rfl wi_X2_readTell we_X2_readTell wm_X2_56 ⟨Nat.le_refl _, Nat.le_refl _⟩ (cX2_readTell hk e_v0 c15) e_v0 (Nat.le_of_ble_eq_true rfl) rfl rfl (Nat.le_of_ble_eq_true rfl) rfl dX2_readInto_75 (fun hb17 => ?_)
            refine r_iinc (lv' := [(2, .int (v2 + 1)), (0, .ref (kad k 2 0))]) hx 1 rfl (congrArg (fun y => v2 + y) ci_1) (Nat.le_of_ble_eq_true rfl) rfl dX2_readInto_78 ?_
            refine r_goto (tgt := 41) hx rfl dX2_readInto_81 ?_
            refine r_sub [1, 0] rfl ?_
            exact ih (v2 + 1) μ16 e_v0 hf
  unfold fX2_readInto at hf
  refine r_aloadn hx 0 rfl rfl dX2_readInto_0 ?_
  refine r_aloadn hx 1 rfl rfl dX2_readInto_1 ?_
  refine r_putT (v := (nI a1)) hx FK2_3 (fun T N h => by cases h; rfl) e_this wf_X2_15 (by decide +kernel) (txI hk e_a1) dX2_readInto_2 ?_
  refine r_aloadn hx 0 rfl rfl dX2_readInto_5 ?_
  refine r_iconst hx ci_0 dX2_readInto_6 ?_
  refine r_putI (ty := .int) hx FK2_0 (fun T N h => by cases h; rfl) e_this wf_X2_34 (by decide +kernel) rfl rfl dX2_readInto_7 ?_
  refine r_aloadn hx 0 rfl rfl dX2_readInto_10 ?_
  refine r_iconst hx ci_m1 dX2_readInto_11 ?_
  refine r_putI (ty := .int) hx FK2_1 (fun T N h => by cases h; rfl) e_this wf_X2_30 (by decide +kernel) rfl rfl dX2_readInto_12 ?_
  refine r_aloadn hx 0 rfl rfl dX2_readInto_15 ?_
  refine r_iconst hx ci_0 dX2_readInto_16 ?_
  refine r_putI (ty := .int) hx FK2_4 (fun T N h => by cases h; rfl) e_this wf_X2_37 (by decide +kernel) rfl rfl dX2_readInto_17 ?_
  refine r_aloadn hx 0 rfl rfl dX2_readInto_20 ?_
  refine r_iconst hx ci_m1 dX2_readInto_21 ?_
  refine r_putI (ty := .int) hx FK2_5 (fun T N h => by cases h; rfl) e_this wf_X2_40 (by decide +kernel) rfl rfl dX2_readInto_22 ?_
  refine r_aloadn hx 0 rfl rfl dX2_readInto_25 ?_
  refine r_getT hx FK2_3 e_this (by decide) wf_X2_15 dX2_readInto_26 (fun e1 => ?_)
  obtain ⟨μ3, c2, hf⟩ := f_bd1 hf
  refine r_callV hx (As := []) (rest := []) (st1 := []) (c := 8) (i := (tx (gi (si (si (si (si (si μ 2 0 3 (nI a1)) 2 0 0 0) 2 0 1 (-1)) 2 0 4 0) 2 0 5 (-1)) 2 0 3))) (TT := T8) (N := 13) MK_X8_clear rfl wi_X8_clear we_X8_clear wm_X2_43 ⟨Nat.le_refl _, Nat.le_refl _⟩ (cX8_clear hk e1 c2) e1 (Nat.le_of_ble_eq_true rfl) rfl rfl (Nat.le_of_ble_eq_true rfl) rfl dX2_readInto_29 (fun hb4 => ?_)
  refine r_aloadn hx 0 rfl rfl dX2_readInto_32 ?_
  refine r_getR hx (c' := 7) (i' := 0) FK2_2 e_this rfl wf_X2_9 dX2_readInto_33 (fun e5 => ?_)
  obtain ⟨μ7, c6, hf⟩ := f_bd1 hf
  refine r_callV hx (As := []) (rest := []) (st1 := []) (c := 7) (i := 0) (TT := T7) (N := 11) MK_X7_scan rfl wi_X7_scan we_X7_scan wm_X2_48 ⟨Nat.le_refl _, Nat.le_refl _⟩ (cX7_scan hk e5 c6) e5 (Nat.le_of_ble_eq_true rfl) rfl rfl (Nat.le_of_ble_eq_true rfl) rfl dX2_readInto_36 (fun hb8 => ?_)
  refine r_iconst hx ci_0 dX2_readInto_39 ?_
  refine r_istoren (lv' := [(2, .int 0), (0, .ref (kad k 2 0)), (1, .ref (kad k 8 a1))]) hx rfl (Nat.le_of_ble_eq_true rfl) rfl dX2_readInto_40 ?_
  refine r_sub [1, 0] rfl ?_
  exact L41 F 0 μ7 e_this hf
theorem dX4_number_0 : decode bX4_number 0 = .ok (.iload_n 0, 1) := by decide +kernel
theorem dX4_number_1 : decode bX4_number 1 = .ok (.invokestatic 31, 3) := by decide +kernel
theorem dX4_number_4 : decode bX4_number 4 = .ok (.ifCond .eq 17, 3) := by decide +kernel
theorem dX4_number_7 : decode bX4_number 7 = .ok (.iload_n 1, 1) := by decide +kernel
theorem dX4_number_8 : decode bX4_number 8 = .ok (.ifCond .lt 13, 3) := by decide +kernel
theorem dX4_number_11 : decode bX4_number 11 = .ok (.iload_n 1, 1) := by decide +kernel
theorem dX4_number_12 : decode bX4_number 12 = .ok (.bipush 99, 2) := by decide +kernel
theorem dX4_number_14 : decode bX4_number 14 = .ok (.if_icmp .gt 7, 3) := by decide +kernel
theorem dX4_number_17 : decode bX4_number 17 = .ok (.iconst 1, 1) := by decide +kernel
theorem dX4_number_18 : decode bX4_number 18 = .ok (.goto 4, 3) := by decide +kernel
theorem dX4_number_21 : decode bX4_number 21 = .ok (.iconst 0, 1) := by decide +kernel
theorem dX4_number_22 : decode bX4_number 22 = .ok (.istore_n 2, 1) := by decide +kernel
theorem dX4_number_23 : decode bX4_number 23 = .ok (.iload_n 2, 1) := by decide +kernel
theorem dX4_number_24 : decode bX4_number 24 = .ok (.ifCond .eq 15, 3) := by decide +kernel
theorem dX4_number_27 : decode bX4_number 27 = .ok (.iload_n 0, 1) := by decide +kernel
theorem dX4_number_28 : decode bX4_number 28 = .ok (.bipush 99, 2) := by decide +kernel
theorem dX4_number_30 : decode bX4_number 30 = .ok (.iadd, 1) := by decide +kernel
theorem dX4_number_31 : decode bX4_number 31 = .ok (.bipush 100, 2) := by decide +kernel
theorem dX4_number_33 : decode bX4_number 33 = .ok (.imul, 1) := by decide +kernel
theorem dX4_number_34 : decode bX4_number 34 = .ok (.iload_n 1, 1) := by decide +kernel
theorem dX4_number_35 : decode bX4_number 35 = .ok (.iadd, 1) := by decide +kernel
theorem dX4_number_36 : decode bX4_number 36 = .ok (.goto 4, 3) := by decide +kernel
theorem dX4_number_39 : decode bX4_number 39 = .ok (.iconst 0, 1) := by decide +kernel
theorem dX4_number_40 : decode bX4_number 40 = .ok (.ireturn, 1) := by decide +kernel
set_option maxRecDepth 20000 in
set_option maxHeartbeats 4000000 in
theorem cX4_number {l : Launch} {k : Kx} {F : Nat} {a0 : Int32} {a1 : Int32} {μ μ' : Mm} {r : Int32} (hk : kok k) (hf : fX4_number F a0 a1 μ = some (r, μ')) : MM l k 1 yX4_number bX4_number 3 (some .int) [.int a0, .int a1] μ (some (.int r)) μ' := by
  refine MM.of (lv := [(0, .int a0), (1, .int a1)]) (plainFor_of_name (by decide)) hk (Nat.le_of_ble_eq_true rfl) rfl (fun z hl hx => ?_)
  subst hl
  have hx : Ok z k bX4_number 3 "RopeDance$Search" (some .int) 1 (0, 0) := hx
  have L22 : ∀ (v0 : Int32) (v1 : Int32) (s0 : Int32) (μ : Mm), fX4_number_L22 F v0 v1 s0 μ = some (r, μ') → Gw z k 3 (k, (0, 0), (some .int), (some (.int r)), μ') (0, 0) 22 μ [(0, .int v0), (1, .int v1)] [.int s0] := by
    intro  v0 v1 s0 μ hf
    unfold fX4_number_L22 at hf
    refine r_istoren (lv' := [(2, .int s0), (0, .int v0), (1, .int v1)]) hx rfl (Nat.le_of_ble_eq_true rfl) rfl dX4_number_22 ?_
    refine r_iloadn hx 0 rfl rfl dX4_number_23 ?_
    refine r_ifeq (tgt := 39) hx rfl dX4_number_24 (fun q6 => ?_) (fun q6 => ?_)
    · have hf := (f_ite hf).1 q6
      refine r_iconst hx ci_0 dX4_number_39 ?_
      exact r_iret hx hf dX4_number_40
    · have hf := (f_ite hf).2 q6
      refine r_iloadn hx 1 rfl rfl dX4_number_27 ?_
      refine r_bipush hx cb_99 dX4_number_28 ?_
      refine r_iadd hx dX4_number_30 ?_
      refine r_bipush hx cb_100 dX4_number_31 ?_
      refine r_imul hx dX4_number_33 ?_
      refine r_iloadn hx 2 rfl rfl dX4_number_34 ?_
      refine r_iadd hx dX4_number_35 ?_
      refine r_goto (tgt := 40) hx rfl dX4_number_36 ?_
      exact r_iret hx hf dX4_number_40
  have L21 : ∀ (v0 : Int32) (v1 : Int32) (μ : Mm), fX4_number_L21 F v0 v1 μ = some (r, μ') → Gw z k 3 (k, (0, 0), (some .int), (some (.int r)), μ') (0, 0) 21 μ [(0, .int v0), (1, .int v1)] [] := by
    intro  v0 v1 μ hf
    unfold fX4_number_L21 at hf
    refine r_iconst hx ci_0 dX4_number_21 ?_
    refine r_sub [0, 1] rfl ?_
    exact L22  v0 v1 0 μ hf
  unfold fX4_number at hf
  refine r_iloadn hx 0 rfl rfl dX4_number_0 ?_
  obtain ⟨r3, μ2, c1, hf⟩ := f_bd2 hf
  refine r_callS hx (As := [.int a0]) (rest := []) (st1 := [.int r3]) MK_X5_isTangle ws_X5_isTangle wm_X4_31 ⟨Nat.le_refl _, Nat.le_refl _⟩ (cX5_isTangle hk c1) (Nat.le_of_ble_eq_true rfl) rfl rfl (Nat.le_of_ble_eq_true rfl) rfl dX4_number_1 (fun hb4 => ?_)
  refine r_ifeq (tgt := 21) hx rfl dX4_number_4 (fun q5 => ?_) (fun q5 => ?_)
  · have hf := (f_ite hf).1 q5
    refine r_sub [0, 1] rfl ?_
    exact L21  a0 a1 μ2 hf
  · have hf := (f_ite hf).2 q5
    refine r_iloadn hx 1 rfl rfl dX4_number_7 ?_
    refine r_iflt (tgt := 21) hx rfl dX4_number_8 (fun q7 => ?_) (fun q7 => ?_)
    · have hf := (f_ite hf).1 q7
      refine r_sub [0, 1] rfl ?_
      exact L21  a0 a1 μ2 hf
    · have hf := (f_ite hf).2 q7
      refine r_iloadn hx 1 rfl rfl dX4_number_11 ?_
      refine r_bipush hx cb_99 dX4_number_12 ?_
      refine r_icgt (tgt := 21) hx rfl dX4_number_14 (fun q8 => ?_) (fun q8 => ?_)
      · have hf := (f_ite hf).1 q8
        refine r_sub [0, 1] rfl ?_
        exact L21  a0 a1 μ2 hf
      · have hf := (f_ite hf).2 q8
        refine r_iconst hx ci_1 dX4_number_17 ?_
        refine r_goto (tgt := 22) hx rfl dX4_number_18 ?_
        refine r_sub [0, 1] rfl ?_
        exact L22  a0 a1 1 μ2 hf
theorem dX4_startAnew_0 : decode bX4_startAnew 0 = .ok (.aload_n 0, 1) := by decide +kernel
theorem dX4_startAnew_1 : decode bX4_startAnew 1 = .ok (.iconst (-1), 1) := by decide +kernel
theorem dX4_startAnew_2 : decode bX4_startAnew 2 = .ok (.putfield 27, 3) := by decide +kernel
theorem dX4_startAnew_5 : decode bX4_startAnew 5 = .ok (.return_, 1) := by decide +kernel
set_option maxRecDepth 20000 in
set_option maxHeartbeats 4000000 in
theorem cX4_startAnew {l : Launch} {k : Kx} {F : Nat} {μ μ' : Mm} (hk : kok k) (e_this : kex k 4 0) (hf : fX4_startAnew F μ = some μ') : MM l k 0 yX4_startAnew bX4_startAnew 1 none [.ref (kad k 4 0)] μ none μ' := by
  refine MM.of (lv := [(0, .ref (kad k 4 0))]) (plainFor_of_name (by decide)) hk (Nat.le_of_ble_eq_true rfl) rfl (fun z hl hx => ?_)
  subst hl
  have hx : Ok z k bX4_startAnew 1 "RopeDance$Search" none 0 (0, 0) := hx
  unfold fX4_startAnew at hf
  refine r_aloadn hx 0 rfl rfl dX4_startAnew_0 ?_
  refine r_iconst hx ci_m1 dX4_startAnew_1 ?_
  refine r_putI (ty := .int) hx FK4_1 (fun T N h => by cases h; rfl) e_this wf_X4_27 (by decide +kernel) rfl rfl dX4_startAnew_2 ?_
  exact r_vret hx hf dX4_startAnew_5
theorem dX4_forgetFound_0 : decode bX4_forgetFound 0 = .ok (.iconst 0, 1) := by decide +kernel
theorem dX4_forgetFound_1 : decode bX4_forgetFound 1 = .ok (.istore_n 1, 1) := by decide +kernel
theorem dX4_forgetFound_2 : decode bX4_forgetFound 2 = .ok (.iload_n 1, 1) := by decide +kernel
theorem dX4_forgetFound_3 : decode bX4_forgetFound 3 = .ok (.aload_n 0, 1) := by decide +kernel
theorem dX4_forgetFound_4 : decode bX4_forgetFound 4 = .ok (.getfield 52, 3) := by decide +kernel
theorem dX4_forgetFound_7 : decode bX4_forgetFound 7 = .ok (.if_icmp .ge 21, 3) := by decide +kernel
theorem dX4_forgetFound_10 : decode bX4_forgetFound 10 = .ok (.aload_n 0, 1) := by decide +kernel
theorem dX4_forgetFound_11 : decode bX4_forgetFound 11 = .ok (.getfield 19, 3) := by decide +kernel
theorem dX4_forgetFound_14 : decode bX4_forgetFound 14 = .ok (.aload_n 0, 1) := by decide +kernel
theorem dX4_forgetFound_15 : decode bX4_forgetFound 15 = .ok (.getfield 13, 3) := by decide +kernel
theorem dX4_forgetFound_18 : decode bX4_forgetFound 18 = .ok (.iload_n 1, 1) := by decide +kernel
theorem dX4_forgetFound_19 : decode bX4_forgetFound 19 = .ok (.iaload, 1) := by decide +kernel
theorem dX4_forgetFound_20 : decode bX4_forgetFound 20 = .ok (.iconst 0, 1) := by decide +kernel
theorem dX4_forgetFound_21 : decode bX4_forgetFound 21 = .ok (.iastore, 1) := by decide +kernel
theorem dX4_forgetFound_22 : decode bX4_forgetFound 22 = .ok (.iinc 1 1, 3) := by decide +kernel
theorem dX4_forgetFound_25 : decode bX4_forgetFound 25 = .ok (.goto (-23), 3) := by decide +kernel
theorem dX4_forgetFound_28 : decode bX4_forgetFound 28 = .ok (.aload_n 0, 1) := by decide +kernel
theorem dX4_forgetFound_29 : decode bX4_forgetFound 29 = .ok (.iconst 0, 1) := by decide +kernel
theorem dX4_forgetFound_30 : decode bX4_forgetFound 30 = .ok (.putfield 52, 3) := by decide +kernel
theorem dX4_forgetFound_33 : decode bX4_forgetFound 33 = .ok (.return_, 1) := by decide +kernel
set_option maxRecDepth 20000 in
set_option maxHeartbeats 4000000 in
theorem cX4_forgetFound {l : Launch} {k : Kx} {F : Nat} {μ μ' : Mm} (hk : kok k) (e_this : kex k 4 0) (hf : fX4_forgetFound F μ = some μ') : MM l k 0 yX4_forgetFound bX4_forgetFound 2 none [.ref (kad k 4 0)] μ none μ' := by
  refine MM.of (lv := [(0, .ref (kad k 4 0))]) (plainFor_of_name (by decide)) hk (Nat.le_of_ble_eq_true rfl) rfl (fun z hl hx => ?_)
  subst hl
  have hx : Ok z k bX4_forgetFound 2 "RopeDance$Search" none 0 (0, 0) := hx
  have L2 : ∀ (n : Nat) (v1 : Int32) (μ : Mm) (e_v0 : kex k 4 0), fX4_forgetFound_L2 F n v1 μ = some μ' → Gw z k 2 (k, (0, 0), none, none, μ') (0, 0) 2 μ [(0, .ref (kad k 4 0)), (1, .int v1)] [] := by
    intro  n
    induction n with
    | zero =>
      intro v1 μ e_v0 hf
      exact f_no (show (none : Option (Mm)) = _ from hf)
    | succ n ih =>
      intro v1 μ e_v0 hf
      rw [fX4_forgetFound_L2] at hf
      refine r_iloadn hx 1 rfl rfl dX4_forgetFound_2 ?_
      refine r_aloadn hx 0 rfl rfl dX4_forgetFound_3 ?_
      refine r_getI hx FK4_0 e_v0 wf_X4_52 dX4_forgetFound_4 ?_
      refine r_icge (tgt := 28) hx rfl dX4_forgetFound_7 (fun q1 => ?_) (fun q1 => ?_)
      · have hf := (f_ite hf).1 q1
        refine r_aloadn hx 0 rfl rfl dX4_forgetFound_28 ?_
        refine r_iconst hx ci_0 dX4_forgetFound_29 ?_
        refine r_putI (ty := .int) hx FK4_0 (fun T N h => by cases h; rfl) e_v0 wf_X4_52 (by decide +kernel) rfl rfl dX4_forgetFound_30 ?_
        exact r_vret hx hf dX4_forgetFound_33
      · have hf := (f_ite hf).2 q1
        refine r_aloadn hx 0 rfl rfl dX4_forgetFound_10 ?_
        refine r_getR hx (c' := 28) (i' := 0) FK4_3 e_v0 rfl wf_X4_19 dX4_forgetFound_11 (fun e2 => ?_)
        refine r_aloadn hx 0 rfl rfl dX4_forgetFound_14 ?_
        refine r_getR hx (c' := 27) (i' := 0) FK4_2 e_v0 rfl wf_X4_13 dX4_forgetFound_15 (fun e3 => ?_)
        refine r_iloadn hx 1 rfl rfl dX4_forgetFound_18 ?_
        obtain ⟨b4, hf⟩ := f_chk hf
        refine r_iald hx (by decide) rfl e3 b4 rfl dX4_forgetFound_19 ?_
        refine r_iconst hx ci_0 dX4_forgetFound_20 ?_
        obtain ⟨b5, hf⟩ := f_chk hf
        refine r_iast hx (by decide) rfl e2 b5 rfl dX4_forgetFound_21 ?_
        refine r_iinc (lv' := [(1, .int (v1 + 1)), (0, .ref (kad k 4 0))]) hx 1 rfl (congrArg (fun y => v1 + y) ci_1) (Nat.le_of_ble_eq_true rfl) rfl dX4_forgetFound_22 ?_
        refine r_goto (tgt := 2) hx rfl dX4_forgetFound_25 ?_
        refine r_sub [1, 0] rfl ?_
        exact ih (v1 + 1) (si μ 28 0 (gi μ 27 0 v1.toNatClampNeg).toNatClampNeg 0) e_v0 hf
  unfold fX4_forgetFound at hf
  refine r_iconst hx ci_0 dX4_forgetFound_0 ?_
  refine r_istoren (lv' := [(1, .int 0), (0, .ref (kad k 4 0))]) hx rfl (Nat.le_of_ble_eq_true rfl) rfl dX4_forgetFound_1 ?_
  refine r_sub [1, 0] rfl ?_
  exact L2 F 0 μ e_this hf
theorem dX4_add_0 : decode bX4_add 0 = .ok (.aload_n 0, 1) := by decide +kernel
theorem dX4_add_1 : decode bX4_add 1 = .ok (.getfield 19, 3) := by decide +kernel
theorem dX4_add_4 : decode bX4_add 4 = .ok (.iload_n 1, 1) := by decide +kernel
theorem dX4_add_5 : decode bX4_add 5 = .ok (.iaload, 1) := by decide +kernel
theorem dX4_add_6 : decode bX4_add 6 = .ok (.ifCond .ne 42, 3) := by decide +kernel
theorem dX4_add_9 : decode bX4_add 9 = .ok (.aload_n 0, 1) := by decide +kernel
theorem dX4_add_10 : decode bX4_add 10 = .ok (.getfield 52, 3) := by decide +kernel
theorem dX4_add_13 : decode bX4_add 13 = .ok (.aload_n 0, 1) := by decide +kernel
theorem dX4_add_14 : decode bX4_add 14 = .ok (.getfield 13, 3) := by decide +kernel
theorem dX4_add_17 : decode bX4_add 17 = .ok (.arraylength, 1) := by decide +kernel
theorem dX4_add_18 : decode bX4_add 18 = .ok (.if_icmp .ge 30, 3) := by decide +kernel
theorem dX4_add_21 : decode bX4_add 21 = .ok (.aload_n 0, 1) := by decide +kernel
theorem dX4_add_22 : decode bX4_add 22 = .ok (.getfield 19, 3) := by decide +kernel
theorem dX4_add_25 : decode bX4_add 25 = .ok (.iload_n 1, 1) := by decide +kernel
theorem dX4_add_26 : decode bX4_add 26 = .ok (.iload_n 2, 1) := by decide +kernel
theorem dX4_add_27 : decode bX4_add 27 = .ok (.iastore, 1) := by decide +kernel
theorem dX4_add_28 : decode bX4_add 28 = .ok (.aload_n 0, 1) := by decide +kernel
theorem dX4_add_29 : decode bX4_add 29 = .ok (.getfield 13, 3) := by decide +kernel
theorem dX4_add_32 : decode bX4_add 32 = .ok (.aload_n 0, 1) := by decide +kernel
theorem dX4_add_33 : decode bX4_add 33 = .ok (.getfield 52, 3) := by decide +kernel
theorem dX4_add_36 : decode bX4_add 36 = .ok (.iload_n 1, 1) := by decide +kernel
theorem dX4_add_37 : decode bX4_add 37 = .ok (.iastore, 1) := by decide +kernel
theorem dX4_add_38 : decode bX4_add 38 = .ok (.aload_n 0, 1) := by decide +kernel
theorem dX4_add_39 : decode bX4_add 39 = .ok (.dup, 1) := by decide +kernel
theorem dX4_add_40 : decode bX4_add 40 = .ok (.getfield 52, 3) := by decide +kernel
theorem dX4_add_43 : decode bX4_add 43 = .ok (.iconst 1, 1) := by decide +kernel
theorem dX4_add_44 : decode bX4_add 44 = .ok (.iadd, 1) := by decide +kernel
theorem dX4_add_45 : decode bX4_add 45 = .ok (.putfield 52, 3) := by decide +kernel
theorem dX4_add_48 : decode bX4_add 48 = .ok (.return_, 1) := by decide +kernel
set_option maxRecDepth 20000 in
set_option maxHeartbeats 4000000 in
theorem cX4_add {l : Launch} {k : Kx} {F : Nat} {a1 : Int32} {a2 : Int32} {μ μ' : Mm} (hk : kok k) (e_this : kex k 4 0) (hf : fX4_add F a1 a2 μ = some μ') : MM l k 0 yX4_add bX4_add 3 none [.ref (kad k 4 0), .int a1, .int a2] μ none μ' := by
  refine MM.of (lv := [(0, .ref (kad k 4 0)), (1, .int a1), (2, .int a2)]) (plainFor_of_name (by decide)) hk (Nat.le_of_ble_eq_true rfl) rfl (fun z hl hx => ?_)
  subst hl
  have hx : Ok z k bX4_add 3 "RopeDance$Search" none 0 (0, 0) := hx
  unfold fX4_add at hf
  refine r_aloadn hx 0 rfl rfl dX4_add_0 ?_
  refine r_getR hx (c' := 28) (i' := 0) FK4_3 e_this rfl wf_X4_19 dX4_add_1 (fun e1 => ?_)
  refine r_iloadn hx 1 rfl rfl dX4_add_4 ?_
  obtain ⟨b2, hf⟩ := f_chk hf
  refine r_iald hx (by decide) rfl e1 b2 rfl dX4_add_5 ?_
  refine r_ifne (tgt := 48) hx rfl dX4_add_6 (fun q3 => ?_) (fun q3 => ?_)
  · have hf := (f_ite hf).2 q3
    exact r_vret hx hf dX4_add_48
  · have hf := (f_ite hf).1 q3
    refine r_aloadn hx 0 rfl rfl dX4_add_9 ?_
    refine r_getI hx FK4_0 e_this wf_X4_52 dX4_add_10 ?_
    refine r_aloadn hx 0 rfl rfl dX4_add_13 ?_
    refine r_getR hx (c' := 27) (i' := 0) FK4_2 e_this rfl wf_X4_13 dX4_add_14 (fun e4 => ?_)
    refine r_alen (v := 12016) hx (by decide) (by decide) e4 (by decide) dX4_add_17 ?_
    refine r_icge (tgt := 48) hx rfl dX4_add_18 (fun q5 => ?_) (fun q5 => ?_)
    · have hf := (f_ite hf).1 q5
      exact r_vret hx hf dX4_add_48
    · have hf := (f_ite hf).2 q5
      refine r_aloadn hx 0 rfl rfl dX4_add_21 ?_
      refine r_getR hx (c' := 28) (i' := 0) FK4_3 e_this rfl wf_X4_19 dX4_add_22 (fun e6 => ?_)
      refine r_iloadn hx 1 rfl rfl dX4_add_25 ?_
      refine r_iloadn hx 2 rfl rfl dX4_add_26 ?_
      refine r_iast hx (by decide) rfl e6 b2 rfl dX4_add_27 ?_
      refine r_aloadn hx 0 rfl rfl dX4_add_28 ?_
      refine r_getR hx (c' := 27) (i' := 0) FK4_2 e_this rfl wf_X4_13 dX4_add_29 (fun e7 => ?_)
      refine r_aloadn hx 0 rfl rfl dX4_add_32 ?_
      refine r_getI hx FK4_0 e_this wf_X4_52 dX4_add_33 ?_
      refine r_iloadn hx 1 rfl rfl dX4_add_36 ?_
      obtain ⟨b8, hf⟩ := f_chk hf
      refine r_iast hx (by decide) rfl e7 b8 rfl dX4_add_37 ?_
      refine r_aloadn hx 0 rfl rfl dX4_add_38 ?_
      refine r_dup hx rfl dX4_add_39 ?_
      refine r_getI hx FK4_0 e_this wf_X4_52 dX4_add_40 ?_
      refine r_iconst hx ci_1 dX4_add_43 ?_
      refine r_iadd hx dX4_add_44 ?_
      refine r_putI (ty := .int) hx FK4_0 (fun T N h => by cases h; rfl) e_this wf_X4_52 (by decide +kernel) rfl rfl dX4_add_45 ?_
      exact r_vret hx hf dX4_add_48
theorem dX4_spread_0 : decode bX4_spread 0 = .ok (.aload_n 2, 1) := by decide +kernel
theorem dX4_spread_1 : decode bX4_spread 1 = .ok (.getfield 35, 3) := by decide +kernel
theorem dX4_spread_4 : decode bX4_spread 4 = .ok (.aload_n 2, 1) := by decide +kernel
theorem dX4_spread_5 : decode bX4_spread 5 = .ok (.getfield 38, 3) := by decide +kernel
theorem dX4_spread_8 : decode bX4_spread 8 = .ok (.invokestatic 41, 3) := by decide +kernel
theorem dX4_spread_11 : decode bX4_spread 11 = .ok (.istore_n 3, 1) := by decide +kernel
theorem dX4_spread_12 : decode bX4_spread 12 = .ok (.iload_n 3, 1) := by decide +kernel
theorem dX4_spread_13 : decode bX4_spread 13 = .ok (.aload_n 0, 1) := by decide +kernel
theorem dX4_spread_14 : decode bX4_spread 14 = .ok (.getfield 27, 3) := by decide +kernel
theorem dX4_spread_17 : decode bX4_spread 17 = .ok (.if_icmp .ne 4, 3) := by decide +kernel
theorem dX4_spread_20 : decode bX4_spread 20 = .ok (.return_, 1) := by decide +kernel
theorem dX4_spread_21 : decode bX4_spread 21 = .ok (.aload_n 0, 1) := by decide +kernel
theorem dX4_spread_22 : decode bX4_spread 22 = .ok (.iload_n 3, 1) := by decide +kernel
theorem dX4_spread_23 : decode bX4_spread 23 = .ok (.putfield 27, 3) := by decide +kernel
theorem dX4_spread_26 : decode bX4_spread 26 = .ok (.aload_n 0, 1) := by decide +kernel
theorem dX4_spread_27 : decode bX4_spread 27 = .ok (.invokevirtual 45, 3) := by decide +kernel
theorem dX4_spread_30 : decode bX4_spread 30 = .ok (.aload_n 0, 1) := by decide +kernel
theorem dX4_spread_31 : decode bX4_spread 31 = .ok (.iload_n 3, 1) := by decide +kernel
theorem dX4_spread_32 : decode bX4_spread 32 = .ok (.iconst (-1), 1) := by decide +kernel
theorem dX4_spread_33 : decode bX4_spread 33 = .ok (.invokevirtual 48, 3) := by decide +kernel
theorem dX4_spread_36 : decode bX4_spread 36 = .ok (.iconst 0, 1) := by decide +kernel
theorem dX4_spread_37 : decode bX4_spread 37 = .ok (.istore 4, 2) := by decide +kernel
theorem dX4_spread_39 : decode bX4_spread 39 = .ok (.iload 4, 2) := by decide +kernel
theorem dX4_spread_41 : decode bX4_spread 41 = .ok (.aload_n 0, 1) := by decide +kernel
theorem dX4_spread_42 : decode bX4_spread 42 = .ok (.getfield 52, 3) := by decide +kernel
theorem dX4_spread_45 : decode bX4_spread 45 = .ok (.if_icmp .ge 136, 3) := by decide +kernel
theorem dX4_spread_48 : decode bX4_spread 48 = .ok (.iload 4, 2) := by decide +kernel
theorem dX4_spread_50 : decode bX4_spread 50 = .ok (.aload_n 0, 1) := by decide +kernel
theorem dX4_spread_51 : decode bX4_spread 51 = .ok (.getfield 13, 3) := by decide +kernel
theorem dX4_spread_54 : decode bX4_spread 54 = .ok (.arraylength, 1) := by decide +kernel
theorem dX4_spread_55 : decode bX4_spread 55 = .ok (.if_icmp .ge 126, 3) := by decide +kernel
theorem dX4_spread_58 : decode bX4_spread 58 = .ok (.iconst 0, 1) := by decide +kernel
theorem dX4_spread_59 : decode bX4_spread 59 = .ok (.istore 5, 2) := by decide +kernel
theorem dX4_spread_61 : decode bX4_spread 61 = .ok (.iload 5, 2) := by decide +kernel
theorem dX4_spread_63 : decode bX4_spread 63 = .ok (.aload_n 1, 1) := by decide +kernel
theorem dX4_spread_64 : decode bX4_spread 64 = .ok (.getfield 55, 3) := by decide +kernel
theorem dX4_spread_67 : decode bX4_spread 67 = .ok (.if_icmp .ge 108, 3) := by decide +kernel
theorem dX4_spread_70 : decode bX4_spread 70 = .ok (.aload_n 1, 1) := by decide +kernel
theorem dX4_spread_71 : decode bX4_spread 71 = .ok (.getfield 60, 3) := by decide +kernel
theorem dX4_spread_74 : decode bX4_spread 74 = .ok (.iload 5, 2) := by decide +kernel
theorem dX4_spread_76 : decode bX4_spread 76 = .ok (.aaload, 1) := by decide +kernel
theorem dX4_spread_77 : decode bX4_spread 77 = .ok (.astore 6, 2) := by decide +kernel
theorem dX4_spread_79 : decode bX4_spread 79 = .ok (.aload_n 0, 1) := by decide +kernel
theorem dX4_spread_80 : decode bX4_spread 80 = .ok (.getfield 23, 3) := by decide +kernel
theorem dX4_spread_83 : decode bX4_spread 83 = .ok (.aload_n 0, 1) := by decide +kernel
theorem dX4_spread_84 : decode bX4_spread 84 = .ok (.getfield 13, 3) := by decide +kernel
theorem dX4_spread_87 : decode bX4_spread 87 = .ok (.iload 4, 2) := by decide +kernel
theorem dX4_spread_89 : decode bX4_spread 89 = .ok (.iaload, 1) := by decide +kernel
theorem dX4_spread_90 : decode bX4_spread 90 = .ok (.bipush 100, 2) := by decide +kernel
theorem dX4_spread_92 : decode bX4_spread 92 = .ok (.idiv, 1) := by decide +kernel
theorem dX4_spread_93 : decode bX4_spread 93 = .ok (.bipush 99, 2) := by decide +kernel
theorem dX4_spread_95 : decode bX4_spread 95 = .ok (.isub, 1) := by decide +kernel
theorem dX4_spread_96 : decode bX4_spread 96 = .ok (.putfield 35, 3) := by decide +kernel
theorem dX4_spread_99 : decode bX4_spread 99 = .ok (.aload_n 0, 1) := by decide +kernel
theorem dX4_spread_100 : decode bX4_spread 100 = .ok (.getfield 23, 3) := by decide +kernel
theorem dX4_spread_103 : decode bX4_spread 103 = .ok (.aload_n 0, 1) := by decide +kernel
theorem dX4_spread_104 : decode bX4_spread 104 = .ok (.getfield 13, 3) := by decide +kernel
theorem dX4_spread_107 : decode bX4_spread 107 = .ok (.iload 4, 2) := by decide +kernel
theorem dX4_spread_109 : decode bX4_spread 109 = .ok (.iaload, 1) := by decide +kernel
theorem dX4_spread_110 : decode bX4_spread 110 = .ok (.bipush 100, 2) := by decide +kernel
theorem dX4_spread_112 : decode bX4_spread 112 = .ok (.irem, 1) := by decide +kernel
theorem dX4_spread_113 : decode bX4_spread 113 = .ok (.putfield 38, 3) := by decide +kernel
theorem dX4_spread_116 : decode bX4_spread 116 = .ok (.aload 6, 2) := by decide +kernel
theorem dX4_spread_118 : decode bX4_spread 118 = .ok (.aload_n 0, 1) := by decide +kernel
theorem dX4_spread_119 : decode bX4_spread 119 = .ok (.getfield 23, 3) := by decide +kernel
theorem dX4_spread_122 : decode bX4_spread 122 = .ok (.aload 6, 2) := by decide +kernel
theorem dX4_spread_124 : decode bX4_spread 124 = .ok (.getfield 64, 3) := by decide +kernel
theorem dX4_spread_127 : decode bX4_spread 127 = .ok (.invokevirtual 69, 3) := by decide +kernel
theorem dX4_spread_130 : decode bX4_spread 130 = .ok (.ifCond .eq 39, 3) := by decide +kernel
theorem dX4_spread_133 : decode bX4_spread 133 = .ok (.aload_n 0, 1) := by decide +kernel
theorem dX4_spread_134 : decode bX4_spread 134 = .ok (.aload_n 0, 1) := by decide +kernel
theorem dX4_spread_135 : decode bX4_spread 135 = .ok (.getfield 23, 3) := by decide +kernel
theorem dX4_spread_138 : decode bX4_spread 138 = .ok (.getfield 35, 3) := by decide +kernel
theorem dX4_spread_141 : decode bX4_spread 141 = .ok (.aload_n 0, 1) := by decide +kernel
theorem dX4_spread_142 : decode bX4_spread 142 = .ok (.getfield 23, 3) := by decide +kernel
theorem dX4_spread_145 : decode bX4_spread 145 = .ok (.getfield 38, 3) := by decide +kernel
theorem dX4_spread_148 : decode bX4_spread 148 = .ok (.invokestatic 41, 3) := by decide +kernel
theorem dX4_spread_151 : decode bX4_spread 151 = .ok (.aload_n 0, 1) := by decide +kernel
theorem dX4_spread_152 : decode bX4_spread 152 = .ok (.getfield 13, 3) := by decide +kernel
theorem dX4_spread_155 : decode bX4_spread 155 = .ok (.iload 4, 2) := by decide +kernel
theorem dX4_spread_157 : decode bX4_spread 157 = .ok (.iaload, 1) := by decide +kernel
theorem dX4_spread_158 : decode bX4_spread 158 = .ok (.bipush 8, 2) := by decide +kernel
theorem dX4_spread_160 : decode bX4_spread 160 = .ok (.imul, 1) := by decide +kernel
theorem dX4_spread_161 : decode bX4_spread 161 = .ok (.iload 5, 2) := by decide +kernel
theorem dX4_spread_163 : decode bX4_spread 163 = .ok (.iadd, 1) := by decide +kernel
theorem dX4_spread_164 : decode bX4_spread 164 = .ok (.iconst 1, 1) := by decide +kernel
theorem dX4_spread_165 : decode bX4_spread 165 = .ok (.iadd, 1) := by decide +kernel
theorem dX4_spread_166 : decode bX4_spread 166 = .ok (.invokevirtual 48, 3) := by decide +kernel
theorem dX4_spread_169 : decode bX4_spread 169 = .ok (.iinc 5 1, 3) := by decide +kernel
theorem dX4_spread_172 : decode bX4_spread 172 = .ok (.goto (-111), 3) := by decide +kernel
theorem dX4_spread_175 : decode bX4_spread 175 = .ok (.iinc 4 1, 3) := by decide +kernel
theorem dX4_spread_178 : decode bX4_spread 178 = .ok (.goto (-139), 3) := by decide +kernel
theorem dX4_spread_181 : decode bX4_spread 181 = .ok (.return_, 1) := by decide +kernel
set_option maxRecDepth 20000 in
set_option maxHeartbeats 4000000 in
theorem cX4_spread {l : Launch} {k : Kx} {F : Nat} {a1 : Nat} {a2 : Nat} {μ μ' : Mm} (hk : kok k) (e_this : kex k 4 0) (e_a1 : kex k 8 a1) (e_a2 : kex k 5 a2) (hf : fX4_spread F a1 a2 μ = some μ') : MM l k 3 yX4_spread bX4_spread 7 none [.ref (kad k 4 0), .ref (kad k 8 a1), .ref (kad k 5 a2)] μ none μ' := by
  refine MM.of (lv := [(0, .ref (kad k 4 0)), (1, .ref (kad k 8 a1)), (2, .ref (kad k 5 a2))]) (plainFor_of_name (by decide)) hk (Nat.le_of_ble_eq_true rfl) rfl (fun z hl hx => ?_)
  subst hl
  have hx : Ok z k bX4_spread 7 "RopeDance$Search" none 3 (0, 0) := hx
  have L169 : ∀ (K61 : Nat → Int32 → Int32 → Mm → Option (Mm)) (HK61 : ∀ (v1 : Nat) (v4 : Int32) (v5 : Int32) (μ : Mm) (e_v0 : kex k 4 0) (e_v1 : kex k 8 v1), K61 v1 v4 v5 μ = some μ' → Gw z k 7 (k, (0, 0), none, none, μ') (0, 0) 61 μ [(0, .ref (kad k 4 0)), (1, .ref (kad k 8 v1)), (4, .int v4), (5, .int v5)] []) (v1 : Nat) (v4 : Int32) (v5 : Int32) (μ : Mm) (e_v0 : kex k 4 0) (e_v1 : kex k 8 v1), fX4_spread_L169 F K61 v1 v4 v5 μ = some μ' → Gw z k 7 (k, (0, 0), none, none, μ') (0, 0) 169 μ [(0, .ref (kad k 4 0)), (1, .ref (kad k 8 v1)), (4, .int v4), (5, .int v5)] [] := by
    intro K61 HK61 v1 v4 v5 μ e_v0 e_v1 hf
    unfold fX4_spread_L169 at hf
    refine r_iinc (lv' := [(5, .int (v5 + 1)), (0, .ref (kad k 4 0)), (1, .ref (kad k 8 v1)), (4, .int v4)]) hx 3 rfl (congrArg (fun y => v5 + y) ci_1) (Nat.le_of_ble_eq_true rfl) rfl dX4_spread_169 ?_
    refine r_goto (tgt := 61) hx rfl dX4_spread_172 ?_
    refine r_sub [1, 2, 3, 0] rfl ?_
    exact HK61 v1 v4 (v5 + 1) μ e_v0 e_v1 hf
  have L61 : ∀ (K39 : Nat → Int32 → Mm → Option (Mm)) (HK39 : ∀ (v1 : Nat) (v4 : Int32) (μ : Mm) (e_v0 : kex k 4 0) (e_v1 : kex k 8 v1), K39 v1 v4 μ = some μ' → Gw z k 7 (k, (0, 0), none, none, μ') (0, 0) 39 μ [(0, .ref (kad k 4 0)), (1, .ref (kad k 8 v1)), (4, .int v4)] []) (n : Nat) (v1 : Nat) (v4 : Int32) (v5 : Int32) (μ : Mm) (e_v0 : kex k 4 0) (e_v1 : kex k 8 v1), fX4_spread_L61 F K39 n v1 v4 v5 μ = some μ' → Gw z k 7 (k, (0, 0), none, none, μ') (0, 0) 61 μ [(0, .ref (kad k 4 0)), (1, .ref (kad k 8 v1)), (4, .int v4), (5, .int v5)] [] := by
    intro K39 HK39 n
    induction n with
    | zero =>
      intro v1 v4 v5 μ e_v0 e_v1 hf
      exact f_no (show (none : Option (Mm)) = _ from hf)
    | succ n ih =>
      intro v1 v4 v5 μ e_v0 e_v1 hf
      rw [fX4_spread_L61] at hf
      refine r_iload hx 3 rfl dX4_spread_61 ?_
      refine r_aloadn hx 1 rfl rfl dX4_spread_63 ?_
      refine r_getI hx FK8_1 e_v1 wf_X4_55 dX4_spread_64 ?_
      refine r_icge (tgt := 175) hx rfl dX4_spread_67 (fun q15 => ?_) (fun q15 => ?_)
      · have hf := (f_ite hf).1 q15
        refine r_iinc (lv' := [(4, .int (v4 + 1)), (0, .ref (kad k 4 0)), (1, .ref (kad k 8 v1)), (5, .int v5)]) hx 2 rfl (congrArg (fun y => v4 + y) ci_1) (Nat.le_of_ble_eq_true rfl) rfl dX4_spread_175 ?_
        refine r_goto (tgt := 39) hx rfl dX4_spread_178 ?_
        refine r_sub [1, 2, 0] rfl ?_
        exact HK39 v1 (v4 + 1) μ e_v0 e_v1 hf
      · have hf := (f_ite hf).2 q15
        refine r_aloadn hx 1 rfl rfl dX4_spread_70 ?_
        refine r_getR hx (c' := 35) (i' := v1) FK8_4 e_v1 rfl wf_X4_60 dX4_spread_71 (fun e16 => ?_)
        refine r_iload hx 3 rfl dX4_spread_74 ?_
        obtain ⟨b17, hf⟩ := f_chk hf
        refine r_aald hx (c' := 3) (i' := (9 * v1 + 4 + v5.toNatClampNeg)) (by decide) (by decide) (by decide) e16 b17 rfl rfl dX4_spread_76 (fun e18 => ?_)
        refine r_astore (lv' := [(6, .ref (kad k 3 (9 * v1 + 4 + v5.toNatClampNeg))), (0, .ref (kad k 4 0)), (1, .ref (kad k 8 v1)), (4, .int v4), (5, .int v5)]) hx (Nat.le_of_ble_eq_true rfl) rfl dX4_spread_77 ?_
        refine r_aloadn hx 1 rfl rfl dX4_spread_79 ?_
        refine r_getR hx (c' := 5) (i' := 9) FK4_4 e_v0 rfl wf_X4_23 dX4_spread_80 (fun e19 => ?_)
        refine r_aloadn hx 1 rfl rfl dX4_spread_83 ?_
        refine r_getR hx (c' := 27) (i' := 0) FK4_2 e_v0 rfl wf_X4_13 dX4_spread_84 (fun e20 => ?_)
        refine r_iload hx 3 rfl dX4_spread_87 ?_
        obtain ⟨b21, hf⟩ := f_chk hf
        refine r_iald hx (by decide) rfl e20 b21 rfl dX4_spread_89 ?_
        refine r_bipush hx cb_100 dX4_spread_90 ?_
        refine r_idiv hx (by decide) dX4_spread_92 ?_
        refine r_bipush hx cb_99 dX4_spread_93 ?_
        refine r_isub hx dX4_spread_95 ?_
        refine r_putI (ty := .int) hx FK5_0 (fun T N h => by cases h; rfl) e19 wf_X4_35 (by decide +kernel) rfl rfl dX4_spread_96 ?_
        refine r_aloadn hx 1 rfl rfl dX4_spread_99 ?_
        refine r_getR hx (c' := 5) (i' := 9) FK4_4 e_v0 rfl wf_X4_23 dX4_spread_100 (fun e22 => ?_)
        refine r_aloadn hx 1 rfl rfl dX4_spread_103 ?_
        refine r_getR hx (c' := 27) (i' := 0) FK4_2 e_v0 rfl wf_X4_13 dX4_spread_104 (fun e23 => ?_)
        refine r_iload hx 3 rfl dX4_spread_107 ?_
        refine r_iald hx (by decide) rfl e23 b21 rfl dX4_spread_109 ?_
        refine r_bipush hx cb_100 dX4_spread_110 ?_
        refine r_irem hx (by decide) dX4_spread_112 ?_
        refine r_putI (ty := .int) hx FK5_1 (fun T N h => by cases h; rfl) e22 wf_X4_38 (by decide +kernel) rfl rfl dX4_spread_113 ?_
        refine r_aload hx 0 rfl dX4_spread_116 ?_
        refine r_aloadn hx 1 rfl rfl dX4_spread_118 ?_
        refine r_getR hx (c' := 5) (i' := 9) FK4_4 e_v0 rfl wf_X4_23 dX4_spread_119 (fun e24 => ?_)
        refine r_aload hx 0 rfl dX4_spread_122 ?_
        refine r_getI hx FK3_0 e18 wf_X4_64 dX4_spread_124 ?_
        obtain ⟨r27, μ26, c25, hf⟩ := f_bd2 hf
        refine r_callV hx (As := [.ref (kad k 5 9), .int (gi (si (si μ 5 9 0 (((gi μ 27 0 v4.toNatClampNeg) / 100) - 99)) 5 9 1 (irm (gi (si μ 5 9 0 (((gi μ 27 0 v4.toNatClampNeg) / 100) - 99)) 27 0 v4.toNatClampNeg) 100)) 3 (9 * v1 + 4 + v5.toNatClampNeg) 0)]) (rest := []) (st1 := [.int r27]) (c := 3) (i := (9 * v1 + 4 + v5.toNatClampNeg)) (TT := T3) (N := 4) MK_X3_makes rfl wi_X3_makes we_X3_makes wm_X4_69 ⟨Nat.le_refl _, Nat.le_refl _⟩ (cX3_makes hk e18 e24 c25) e18 (Nat.le_of_ble_eq_true rfl) rfl rfl (Nat.le_of_ble_eq_true rfl) rfl dX4_spread_127 (fun hb28 => ?_)
        refine r_ifeq (tgt := 169) hx rfl dX4_spread_130 (fun q29 => ?_) (fun q29 => ?_)
        · have hf := (f_ite hf).1 q29
          refine r_sub [1, 2, 3, 4] rfl ?_
          exact L169 _ ih  v1 v4 v5 μ26 e_v0 e_v1 hf
        · have hf := (f_ite hf).2 q29
          refine r_aloadn hx 1 rfl rfl dX4_spread_133 ?_
          refine r_aloadn hx 1 rfl rfl dX4_spread_134 ?_
          refine r_getR hx (c' := 5) (i' := 9) FK4_4 e_v0 rfl wf_X4_23 dX4_spread_135 (fun e30 => ?_)
          refine r_getI hx FK5_0 e30 wf_X4_35 dX4_spread_138 ?_
          refine r_aloadn hx 1 rfl rfl dX4_spread_141 ?_
          refine r_getR hx (c' := 5) (i' := 9) FK4_4 e_v0 rfl wf_X4_23 dX4_spread_142 (fun e31 => ?_)
          refine r_getI hx FK5_1 e31 wf_X4_38 dX4_spread_145 ?_
          obtain ⟨r34, μ33, c32, hf⟩ := f_bd2 hf
          refine r_callS hx (As := [.int (gi μ26 5 9 0), .int (gi μ26 5 9 1)]) (rest := [.ref (kad k 4 0)]) (st1 := [.int r34, .ref (kad k 4 0)]) MK_X4_number ws_X4_number wm_X4_41 ⟨Nat.le_refl _, Nat.le_refl _⟩ (cX4_number hk c32) (Nat.le_of_ble_eq_true rfl) rfl rfl (Nat.le_of_ble_eq_true rfl) rfl dX4_spread_148 (fun hb35 => ?_)
          refine r_aloadn hx 1 rfl rfl dX4_spread_151 ?_
          refine r_getR hx (c' := 27) (i' := 0) FK4_2 e_v0 rfl wf_X4_13 dX4_spread_152 (fun e36 => ?_)
          refine r_iload hx 3 rfl dX4_spread_155 ?_
          refine r_iald hx (by decide) rfl e36 b21 rfl dX4_spread_157 ?_
          refine r_bipush hx cb_8 dX4_spread_158 ?_
          refine r_imul hx dX4_spread_160 ?_
          refine r_iload hx 4 rfl dX4_spread_161 ?_
          refine r_iadd hx dX4_spread_163 ?_
          refine r_iconst hx ci_1 dX4_spread_164 ?_
          refine r_iadd hx dX4_spread_165 ?_
          obtain ⟨μ38, c37, hf⟩ := f_bd1 hf
          refine r_callV hx (As := [.int r34, .int ((((gi μ33 27 0 v4.toNatClampNeg) * 8) + v5) + 1)]) (rest := []) (st1 := []) (c := 4) (i := 0) (TT := T4) (N := 5) MK_X4_add rfl wi_X4_add we_X4_add wm_X4_48 ⟨Nat.le_refl _, Nat.le_refl _⟩ (cX4_add hk e_v0 c37) e_v0 (Nat.le_of_ble_eq_true rfl) rfl rfl (Nat.le_of_ble_eq_true rfl) rfl dX4_spread_166 (fun hb39 => ?_)
          refine r_sub [1, 2, 3, 4] rfl ?_
          exact L169 _ ih  v1 v4 v5 μ38 e_v0 e_v1 hf
  have L39 : ∀ (n : Nat) (v1 : Nat) (v4 : Int32) (μ : Mm) (e_v0 : kex k 4 0) (e_v1 : kex k 8 v1), fX4_spread_L39 F n v1 v4 μ = some μ' → Gw z k 7 (k, (0, 0), none, none, μ') (0, 0) 39 μ [(0, .ref (kad k 4 0)), (1, .ref (kad k 8 v1)), (4, .int v4)] [] := by
    intro  n
    induction n with
    | zero =>
      intro v1 v4 μ e_v0 e_v1 hf
      exact f_no (show (none : Option (Mm)) = _ from hf)
    | succ n ih =>
      intro v1 v4 μ e_v0 e_v1 hf
      rw [fX4_spread_L39] at hf
      refine r_iload hx 2 rfl dX4_spread_39 ?_
      refine r_aloadn hx 0 rfl rfl dX4_spread_41 ?_
      refine r_getI hx FK4_0 e_v0 wf_X4_52 dX4_spread_42 ?_
      refine r_icge (tgt := 181) hx rfl dX4_spread_45 (fun q12 => ?_) (fun q12 => ?_)
      · have hf := (f_ite hf).1 q12
        exact r_vret hx hf dX4_spread_181
      · have hf := (f_ite hf).2 q12
        refine r_iload hx 2 rfl dX4_spread_48 ?_
        refine r_aloadn hx 0 rfl rfl dX4_spread_50 ?_
        refine r_getR hx (c' := 27) (i' := 0) FK4_2 e_v0 rfl wf_X4_13 dX4_spread_51 (fun e13 => ?_)
        refine r_alen (v := 12016) hx (by decide) (by decide) e13 (by decide) dX4_spread_54 ?_
        refine r_icge (tgt := 181) hx rfl dX4_spread_55 (fun q14 => ?_) (fun q14 => ?_)
        · have hf := (f_ite hf).1 q14
          exact r_vret hx hf dX4_spread_181
        · have hf := (f_ite hf).2 q14
          refine r_iconst hx ci_0 dX4_spread_58 ?_
          refine r_istore (lv' := [(5, .int 0), (0, .ref (kad k 4 0)), (1, .ref (kad k 8 v1)), (4, .int v4)]) hx (Nat.le_of_ble_eq_true rfl) rfl dX4_spread_59 ?_
          refine r_sub [1, 2, 3, 0] rfl ?_
          exact L61 _ ih F v1 v4 0 μ e_v0 e_v1 hf
  unfold fX4_spread at hf
  refine r_aloadn hx 2 rfl rfl dX4_spread_0 ?_
  refine r_getI hx FK5_0 e_a2 wf_X4_35 dX4_spread_1 ?_
  refine r_aloadn hx 2 rfl rfl dX4_spread_4 ?_
  refine r_getI hx FK5_1 e_a2 wf_X4_38 dX4_spread_5 ?_
  obtain ⟨r3, μ2, c1, hf⟩ := f_bd2 hf
  refine r_callS hx (As := [.int (gi μ 5 a2 0), .int (gi μ 5 a2 1)]) (rest := []) (st1 := [.int r3]) MK_X4_number ws_X4_number wm_X4_41 ⟨Nat.le_refl _, Nat.le_refl _⟩ (cX4_number hk c1) (Nat.le_of_ble_eq_true rfl) rfl rfl (Nat.le_of_ble_eq_true rfl) rfl dX4_spread_8 (fun hb4 => ?_)
  refine r_istoren (lv' := [(3, .int r3), (0, .ref (kad k 4 0)), (1, .ref (kad k 8 a1)), (2, .ref (kad k 5 a2))]) hx rfl (Nat.le_of_ble_eq_true rfl) rfl dX4_spread_11 ?_
  refine r_iloadn hx 0 rfl rfl dX4_spread_12 ?_
  refine r_aloadn hx 1 rfl rfl dX4_spread_13 ?_
  refine r_getI hx FK4_1 e_this wf_X4_27 dX4_spread_14 ?_
  refine r_icne (tgt := 21) hx rfl dX4_spread_17 (fun q5 => ?_) (fun q5 => ?_)
  · have hf := (f_ite hf).2 q5
    refine r_aloadn hx 1 rfl rfl dX4_spread_21 ?_
    refine r_iloadn hx 0 rfl rfl dX4_spread_22 ?_
    refine r_putI (ty := .int) hx FK4_1 (fun T N h => by cases h; rfl) e_this wf_X4_27 (by decide +kernel) rfl rfl dX4_spread_23 ?_
    refine r_aloadn hx 1 rfl rfl dX4_spread_26 ?_
    obtain ⟨μ7, c6, hf⟩ := f_bd1 hf
    refine r_callV hx (As := []) (rest := []) (st1 := []) (c := 4) (i := 0) (TT := T4) (N := 5) MK_X4_forgetFound rfl wi_X4_forgetFound we_X4_forgetFound wm_X4_45 ⟨Nat.le_refl _, Nat.le_refl _⟩ (cX4_forgetFound hk e_this c6) e_this (Nat.le_of_ble_eq_true rfl) rfl rfl (Nat.le_of_ble_eq_true rfl) rfl dX4_spread_27 (fun hb8 => ?_)
    refine r_aloadn hx 1 rfl rfl dX4_spread_30 ?_
    refine r_iloadn hx 0 rfl rfl dX4_spread_31 ?_
    refine r_iconst hx ci_m1 dX4_spread_32 ?_
    obtain ⟨μ10, c9, hf⟩ := f_bd1 hf
    refine r_callV hx (As := [.int r3, .int (-1)]) (rest := []) (st1 := []) (c := 4) (i := 0) (TT := T4) (N := 5) MK_X4_add rfl wi_X4_add we_X4_add wm_X4_48 ⟨Nat.le_refl _, Nat.le_refl _⟩ (cX4_add hk e_this c9) e_this (Nat.le_of_ble_eq_true rfl) rfl rfl (Nat.le_of_ble_eq_true rfl) rfl dX4_spread_33 (fun hb11 => ?_)
    refine r_iconst hx ci_0 dX4_spread_36 ?_
    refine r_istore (lv' := [(4, .int 0), (3, .int r3), (0, .ref (kad k 4 0)), (1, .ref (kad k 8 a1)), (2, .ref (kad k 5 a2))]) hx (Nat.le_of_ble_eq_true rfl) rfl dX4_spread_37 ?_
    refine r_sub [2, 3, 0] rfl ?_
    exact L39 F a1 0 μ10 e_this e_a1 hf
  · have hf := (f_ite hf).1 q5
    exact r_vret hx hf dX4_spread_20
theorem dX4_lengthTo_0 : decode bX4_lengthTo 0 = .ok (.aload_n 0, 1) := by decide +kernel
theorem dX4_lengthTo_1 : decode bX4_lengthTo 1 = .ok (.getfield 19, 3) := by decide +kernel
theorem dX4_lengthTo_4 : decode bX4_lengthTo 4 = .ok (.iload_n 1, 1) := by decide +kernel
theorem dX4_lengthTo_5 : decode bX4_lengthTo 5 = .ok (.iaload, 1) := by decide +kernel
theorem dX4_lengthTo_6 : decode bX4_lengthTo 6 = .ok (.ifCond .ne 5, 3) := by decide +kernel
theorem dX4_lengthTo_9 : decode bX4_lengthTo 9 = .ok (.iconst (-1), 1) := by decide +kernel
theorem dX4_lengthTo_10 : decode bX4_lengthTo 10 = .ok (.ireturn, 1) := by decide +kernel
theorem dX4_lengthTo_11 : decode bX4_lengthTo 11 = .ok (.iconst 0, 1) := by decide +kernel
theorem dX4_lengthTo_12 : decode bX4_lengthTo 12 = .ok (.istore_n 2, 1) := by decide +kernel
theorem dX4_lengthTo_13 : decode bX4_lengthTo 13 = .ok (.iload_n 1, 1) := by decide +kernel
theorem dX4_lengthTo_14 : decode bX4_lengthTo 14 = .ok (.istore_n 3, 1) := by decide +kernel
theorem dX4_lengthTo_15 : decode bX4_lengthTo 15 = .ok (.iload_n 2, 1) := by decide +kernel
theorem dX4_lengthTo_16 : decode bX4_lengthTo 16 = .ok (.aload_n 0, 1) := by decide +kernel
theorem dX4_lengthTo_17 : decode bX4_lengthTo 17 = .ok (.getfield 52, 3) := by decide +kernel
theorem dX4_lengthTo_20 : decode bX4_lengthTo 20 = .ok (.if_icmp .ge 31, 3) := by decide +kernel
theorem dX4_lengthTo_23 : decode bX4_lengthTo 23 = .ok (.aload_n 0, 1) := by decide +kernel
theorem dX4_lengthTo_24 : decode bX4_lengthTo 24 = .ok (.getfield 19, 3) := by decide +kernel
theorem dX4_lengthTo_27 : decode bX4_lengthTo 27 = .ok (.iload_n 3, 1) := by decide +kernel
theorem dX4_lengthTo_28 : decode bX4_lengthTo 28 = .ok (.iaload, 1) := by decide +kernel
theorem dX4_lengthTo_29 : decode bX4_lengthTo 29 = .ok (.iconst (-1), 1) := by decide +kernel
theorem dX4_lengthTo_30 : decode bX4_lengthTo 30 = .ok (.if_icmp .eq 21, 3) := by decide +kernel
theorem dX4_lengthTo_33 : decode bX4_lengthTo 33 = .ok (.aload_n 0, 1) := by decide +kernel
theorem dX4_lengthTo_34 : decode bX4_lengthTo 34 = .ok (.getfield 19, 3) := by decide +kernel
theorem dX4_lengthTo_37 : decode bX4_lengthTo 37 = .ok (.iload_n 3, 1) := by decide +kernel
theorem dX4_lengthTo_38 : decode bX4_lengthTo 38 = .ok (.iaload, 1) := by decide +kernel
theorem dX4_lengthTo_39 : decode bX4_lengthTo 39 = .ok (.iconst 1, 1) := by decide +kernel
theorem dX4_lengthTo_40 : decode bX4_lengthTo 40 = .ok (.isub, 1) := by decide +kernel
theorem dX4_lengthTo_41 : decode bX4_lengthTo 41 = .ok (.bipush 8, 2) := by decide +kernel
theorem dX4_lengthTo_43 : decode bX4_lengthTo 43 = .ok (.idiv, 1) := by decide +kernel
theorem dX4_lengthTo_44 : decode bX4_lengthTo 44 = .ok (.istore_n 3, 1) := by decide +kernel
theorem dX4_lengthTo_45 : decode bX4_lengthTo 45 = .ok (.iinc 2 1, 3) := by decide +kernel
theorem dX4_lengthTo_48 : decode bX4_lengthTo 48 = .ok (.goto (-33), 3) := by decide +kernel
theorem dX4_lengthTo_51 : decode bX4_lengthTo 51 = .ok (.iload_n 2, 1) := by decide +kernel
theorem dX4_lengthTo_52 : decode bX4_lengthTo 52 = .ok (.ireturn, 1) := by decide +kernel
set_option maxRecDepth 20000 in
set_option maxHeartbeats 4000000 in
theorem cX4_lengthTo {l : Launch} {k : Kx} {F : Nat} {a1 : Int32} {μ μ' : Mm} {r : Int32} (hk : kok k) (e_this : kex k 4 0) (hf : fX4_lengthTo F a1 μ = some (r, μ')) : MM l k 0 yX4_lengthTo bX4_lengthTo 4 (some .int) [.ref (kad k 4 0), .int a1] μ (some (.int r)) μ' := by
  refine MM.of (lv := [(0, .ref (kad k 4 0)), (1, .int a1)]) (plainFor_of_name (by decide)) hk (Nat.le_of_ble_eq_true rfl) rfl (fun z hl hx => ?_)
  subst hl
  have hx : Ok z k bX4_lengthTo 4 "RopeDance$Search" (some .int) 0 (0, 0) := hx
  have L15 : ∀ (n : Nat) (v2 : Int32) (v3 : Int32) (μ : Mm) (e_v0 : kex k 4 0), fX4_lengthTo_L15 F n v2 v3 μ = some (r, μ') → Gw z k 4 (k, (0, 0), (some .int), (some (.int r)), μ') (0, 0) 15 μ [(0, .ref (kad k 4 0)), (2, .int v2), (3, .int v3)] [] := by
    intro  n
    induction n with
    | zero =>
      intro v2 v3 μ e_v0 hf
      exact f_no (show (none : Option (Int32 × Mm)) = _ from hf)
    | succ n ih =>
      intro v2 v3 μ e_v0 hf
      rw [fX4_lengthTo_L15] at hf
      refine r_iloadn hx 1 rfl rfl dX4_lengthTo_15 ?_
      refine r_aloadn hx 0 rfl rfl dX4_lengthTo_16 ?_
      refine r_getI hx FK4_0 e_v0 wf_X4_52 dX4_lengthTo_17 ?_
      refine r_icge (tgt := 51) hx rfl dX4_lengthTo_20 (fun q4 => ?_) (fun q4 => ?_)
      · have hf := (f_ite hf).1 q4
        refine r_iloadn hx 1 rfl rfl dX4_lengthTo_51 ?_
        exact r_iret hx hf dX4_lengthTo_52
      · have hf := (f_ite hf).2 q4
        refine r_aloadn hx 0 rfl rfl dX4_lengthTo_23 ?_
        refine r_getR hx (c' := 28) (i' := 0) FK4_3 e_v0 rfl wf_X4_19 dX4_lengthTo_24 (fun e5 => ?_)
        refine r_iloadn hx 2 rfl rfl dX4_lengthTo_27 ?_
        obtain ⟨b6, hf⟩ := f_chk hf
        refine r_iald hx (by decide) rfl e5 b6 rfl dX4_lengthTo_28 ?_
        refine r_iconst hx ci_m1 dX4_lengthTo_29 ?_
        refine r_iceq (tgt := 51) hx rfl dX4_lengthTo_30 (fun q7 => ?_) (fun q7 => ?_)
        · have hf := (f_ite hf).1 q7
          refine r_iloadn hx 1 rfl rfl dX4_lengthTo_51 ?_
          exact r_iret hx hf dX4_lengthTo_52
        · have hf := (f_ite hf).2 q7
          refine r_aloadn hx 0 rfl rfl dX4_lengthTo_33 ?_
          refine r_getR hx (c' := 28) (i' := 0) FK4_3 e_v0 rfl wf_X4_19 dX4_lengthTo_34 (fun e8 => ?_)
          refine r_iloadn hx 2 rfl rfl dX4_lengthTo_37 ?_
          refine r_iald hx (by decide) rfl e8 b6 rfl dX4_lengthTo_38 ?_
          refine r_iconst hx ci_1 dX4_lengthTo_39 ?_
          refine r_isub hx dX4_lengthTo_40 ?_
          refine r_bipush hx cb_8 dX4_lengthTo_41 ?_
          refine r_idiv hx (by decide) dX4_lengthTo_43 ?_
          refine r_istoren (lv' := [(3, .int (((gi μ 28 0 v3.toNatClampNeg) - 1) / 8)), (0, .ref (kad k 4 0)), (2, .int v2)]) hx rfl (Nat.le_of_ble_eq_true rfl) rfl dX4_lengthTo_44 ?_
          refine r_iinc (lv' := [(2, .int (v2 + 1)), (3, .int (((gi μ 28 0 v3.toNatClampNeg) - 1) / 8)), (0, .ref (kad k 4 0))]) hx 2 rfl (congrArg (fun y => v2 + y) ci_1) (Nat.le_of_ble_eq_true rfl) rfl dX4_lengthTo_45 ?_
          refine r_goto (tgt := 15) hx rfl dX4_lengthTo_48 ?_
          refine r_sub [2, 0, 1] rfl ?_
          exact ih (v2 + 1) (((gi μ 28 0 v3.toNatClampNeg) - 1) / 8) μ e_v0 hf
  unfold fX4_lengthTo at hf
  refine r_aloadn hx 0 rfl rfl dX4_lengthTo_0 ?_
  refine r_getR hx (c' := 28) (i' := 0) FK4_3 e_this rfl wf_X4_19 dX4_lengthTo_1 (fun e1 => ?_)
  refine r_iloadn hx 1 rfl rfl dX4_lengthTo_4 ?_
  obtain ⟨b2, hf⟩ := f_chk hf
  refine r_iald hx (by decide) rfl e1 b2 rfl dX4_lengthTo_5 ?_
  refine r_ifne (tgt := 11) hx rfl dX4_lengthTo_6 (fun q3 => ?_) (fun q3 => ?_)
  · have hf := (f_ite hf).2 q3
    refine r_iconst hx ci_0 dX4_lengthTo_11 ?_
    refine r_istoren (lv' := [(2, .int 0), (0, .ref (kad k 4 0)), (1, .int a1)]) hx rfl (Nat.le_of_ble_eq_true rfl) rfl dX4_lengthTo_12 ?_
    refine r_iloadn hx 2 rfl rfl dX4_lengthTo_13 ?_
    refine r_istoren (lv' := [(3, .int a1), (2, .int 0), (0, .ref (kad k 4 0)), (1, .int a1)]) hx rfl (Nat.le_of_ble_eq_true rfl) rfl dX4_lengthTo_14 ?_
    refine r_sub [2, 1, 0] rfl ?_
    exact L15 F 0 a1 μ e_this hf
  · have hf := (f_ite hf).1 q3
    refine r_iconst hx ci_m1 dX4_lengthTo_9 ?_
    exact r_iret hx hf dX4_lengthTo_10
theorem dX4_figureBeforeLast_0 : decode bX4_figureBeforeLast 0 = .ok (.iload_n 1, 1) := by decide +kernel
theorem dX4_figureBeforeLast_1 : decode bX4_figureBeforeLast 1 = .ok (.istore_n 3, 1) := by decide +kernel
theorem dX4_figureBeforeLast_2 : decode bX4_figureBeforeLast 2 = .ok (.iconst 0, 1) := by decide +kernel
theorem dX4_figureBeforeLast_3 : decode bX4_figureBeforeLast 3 = .ok (.istore 4, 2) := by decide +kernel
theorem dX4_figureBeforeLast_5 : decode bX4_figureBeforeLast 5 = .ok (.iload 4, 2) := by decide +kernel
theorem dX4_figureBeforeLast_7 : decode bX4_figureBeforeLast 7 = .ok (.iload_n 2, 1) := by decide +kernel
theorem dX4_figureBeforeLast_8 : decode bX4_figureBeforeLast 8 = .ok (.if_icmp .ge 30, 3) := by decide +kernel
theorem dX4_figureBeforeLast_11 : decode bX4_figureBeforeLast 11 = .ok (.aload_n 0, 1) := by decide +kernel
theorem dX4_figureBeforeLast_12 : decode bX4_figureBeforeLast 12 = .ok (.getfield 19, 3) := by decide +kernel
theorem dX4_figureBeforeLast_15 : decode bX4_figureBeforeLast 15 = .ok (.iload_n 3, 1) := by decide +kernel
theorem dX4_figureBeforeLast_16 : decode bX4_figureBeforeLast 16 = .ok (.iaload, 1) := by decide +kernel
theorem dX4_figureBeforeLast_17 : decode bX4_figureBeforeLast 17 = .ok (.ifCond .le 21, 3) := by decide +kernel
theorem dX4_figureBeforeLast_20 : decode bX4_figureBeforeLast 20 = .ok (.aload_n 0, 1) := by decide +kernel
theorem dX4_figureBeforeLast_21 : decode bX4_figureBeforeLast 21 = .ok (.getfield 19, 3) := by decide +kernel
theorem dX4_figureBeforeLast_24 : decode bX4_figureBeforeLast 24 = .ok (.iload_n 3, 1) := by decide +kernel
theorem dX4_figureBeforeLast_25 : decode bX4_figureBeforeLast 25 = .ok (.iaload, 1) := by decide +kernel
theorem dX4_figureBeforeLast_26 : decode bX4_figureBeforeLast 26 = .ok (.iconst 1, 1) := by decide +kernel
theorem dX4_figureBeforeLast_27 : decode bX4_figureBeforeLast 27 = .ok (.isub, 1) := by decide +kernel
theorem dX4_figureBeforeLast_28 : decode bX4_figureBeforeLast 28 = .ok (.bipush 8, 2) := by decide +kernel
theorem dX4_figureBeforeLast_30 : decode bX4_figureBeforeLast 30 = .ok (.idiv, 1) := by decide +kernel
theorem dX4_figureBeforeLast_31 : decode bX4_figureBeforeLast 31 = .ok (.istore_n 3, 1) := by decide +kernel
theorem dX4_figureBeforeLast_32 : decode bX4_figureBeforeLast 32 = .ok (.iinc 4 1, 3) := by decide +kernel
theorem dX4_figureBeforeLast_35 : decode bX4_figureBeforeLast 35 = .ok (.goto (-30), 3) := by decide +kernel
theorem dX4_figureBeforeLast_38 : decode bX4_figureBeforeLast 38 = .ok (.aload_n 0, 1) := by decide +kernel
theorem dX4_figureBeforeLast_39 : decode bX4_figureBeforeLast 39 = .ok (.getfield 19, 3) := by decide +kernel
theorem dX4_figureBeforeLast_42 : decode bX4_figureBeforeLast 42 = .ok (.iload_n 3, 1) := by decide +kernel
theorem dX4_figureBeforeLast_43 : decode bX4_figureBeforeLast 43 = .ok (.iaload, 1) := by decide +kernel
theorem dX4_figureBeforeLast_44 : decode bX4_figureBeforeLast 44 = .ok (.ifCond .le 17, 3) := by decide +kernel
theorem dX4_figureBeforeLast_47 : decode bX4_figureBeforeLast 47 = .ok (.aload_n 0, 1) := by decide +kernel
theorem dX4_figureBeforeLast_48 : decode bX4_figureBeforeLast 48 = .ok (.getfield 19, 3) := by decide +kernel
theorem dX4_figureBeforeLast_51 : decode bX4_figureBeforeLast 51 = .ok (.iload_n 3, 1) := by decide +kernel
theorem dX4_figureBeforeLast_52 : decode bX4_figureBeforeLast 52 = .ok (.iaload, 1) := by decide +kernel
theorem dX4_figureBeforeLast_53 : decode bX4_figureBeforeLast 53 = .ok (.iconst 1, 1) := by decide +kernel
theorem dX4_figureBeforeLast_54 : decode bX4_figureBeforeLast 54 = .ok (.isub, 1) := by decide +kernel
theorem dX4_figureBeforeLast_55 : decode bX4_figureBeforeLast 55 = .ok (.bipush 8, 2) := by decide +kernel
theorem dX4_figureBeforeLast_57 : decode bX4_figureBeforeLast 57 = .ok (.irem, 1) := by decide +kernel
theorem dX4_figureBeforeLast_58 : decode bX4_figureBeforeLast 58 = .ok (.goto 4, 3) := by decide +kernel
theorem dX4_figureBeforeLast_61 : decode bX4_figureBeforeLast 61 = .ok (.iconst (-1), 1) := by decide +kernel
theorem dX4_figureBeforeLast_62 : decode bX4_figureBeforeLast 62 = .ok (.ireturn, 1) := by decide +kernel
set_option maxRecDepth 20000 in
set_option maxHeartbeats 4000000 in
theorem cX4_figureBeforeLast {l : Launch} {k : Kx} {F : Nat} {a1 : Int32} {a2 : Int32} {μ μ' : Mm} {r : Int32} (hk : kok k) (e_this : kex k 4 0) (hf : fX4_figureBeforeLast F a1 a2 μ = some (r, μ')) : MM l k 0 yX4_figureBeforeLast bX4_figureBeforeLast 5 (some .int) [.ref (kad k 4 0), .int a1, .int a2] μ (some (.int r)) μ' := by
  refine MM.of (lv := [(0, .ref (kad k 4 0)), (1, .int a1), (2, .int a2)]) (plainFor_of_name (by decide)) hk (Nat.le_of_ble_eq_true rfl) rfl (fun z hl hx => ?_)
  subst hl
  have hx : Ok z k bX4_figureBeforeLast 5 "RopeDance$Search" (some .int) 0 (0, 0) := hx
  have L38 : ∀ (v3 : Int32) (μ : Mm) (e_v0 : kex k 4 0), fX4_figureBeforeLast_L38 F v3 μ = some (r, μ') → Gw z k 5 (k, (0, 0), (some .int), (some (.int r)), μ') (0, 0) 38 μ [(0, .ref (kad k 4 0)), (3, .int v3)] [] := by
    intro  v3 μ e_v0 hf
    unfold fX4_figureBeforeLast_L38 at hf
    refine r_aloadn hx 0 rfl rfl dX4_figureBeforeLast_38 ?_
    refine r_getR hx (c' := 28) (i' := 0) FK4_3 e_v0 rfl wf_X4_19 dX4_figureBeforeLast_39 (fun e2 => ?_)
    refine r_iloadn hx 1 rfl rfl dX4_figureBeforeLast_42 ?_
    obtain ⟨b3, hf⟩ := f_chk hf
    refine r_iald hx (by decide) rfl e2 b3 rfl dX4_figureBeforeLast_43 ?_
    refine r_ifle (tgt := 61) hx rfl dX4_figureBeforeLast_44 (fun q4 => ?_) (fun q4 => ?_)
    · have hf := (f_ite hf).1 q4
      refine r_iconst hx ci_m1 dX4_figureBeforeLast_61 ?_
      exact r_iret hx hf dX4_figureBeforeLast_62
    · have hf := (f_ite hf).2 q4
      refine r_aloadn hx 0 rfl rfl dX4_figureBeforeLast_47 ?_
      refine r_getR hx (c' := 28) (i' := 0) FK4_3 e_v0 rfl wf_X4_19 dX4_figureBeforeLast_48 (fun e5 => ?_)
      refine r_iloadn hx 1 rfl rfl dX4_figureBeforeLast_51 ?_
      refine r_iald hx (by decide) rfl e5 b3 rfl dX4_figureBeforeLast_52 ?_
      refine r_iconst hx ci_1 dX4_figureBeforeLast_53 ?_
      refine r_isub hx dX4_figureBeforeLast_54 ?_
      refine r_bipush hx cb_8 dX4_figureBeforeLast_55 ?_
      refine r_irem hx (by decide) dX4_figureBeforeLast_57 ?_
      refine r_goto (tgt := 62) hx rfl dX4_figureBeforeLast_58 ?_
      exact r_iret hx hf dX4_figureBeforeLast_62
  have L5 : ∀ (n : Nat) (v2 : Int32) (v3 : Int32) (v4 : Int32) (μ : Mm) (e_v0 : kex k 4 0), fX4_figureBeforeLast_L5 F n v2 v3 v4 μ = some (r, μ') → Gw z k 5 (k, (0, 0), (some .int), (some (.int r)), μ') (0, 0) 5 μ [(0, .ref (kad k 4 0)), (2, .int v2), (3, .int v3), (4, .int v4)] [] := by
    intro  n
    induction n with
    | zero =>
      intro v2 v3 v4 μ e_v0 hf
      exact f_no (show (none : Option (Int32 × Mm)) = _ from hf)
    | succ n ih =>
      intro v2 v3 v4 μ e_v0 hf
      rw [fX4_figureBeforeLast_L5] at hf
      refine r_iload hx 3 rfl dX4_figureBeforeLast_5 ?_
      refine r_iloadn hx 1 rfl rfl dX4_figureBeforeLast_7 ?_
      refine r_icge (tgt := 38) hx rfl dX4_figureBeforeLast_8 (fun q1 => ?_) (fun q1 => ?_)
      · have hf := (f_ite hf).1 q1
        refine r_sub [0, 2] rfl ?_
        exact L38  v3 μ e_v0 hf
      · have hf := (f_ite hf).2 q1
        refine r_aloadn hx 0 rfl rfl dX4_figureBeforeLast_11 ?_
        refine r_getR hx (c' := 28) (i' := 0) FK4_3 e_v0 rfl wf_X4_19 dX4_figureBeforeLast_12 (fun e6 => ?_)
        refine r_iloadn hx 2 rfl rfl dX4_figureBeforeLast_15 ?_
        obtain ⟨b7, hf⟩ := f_chk hf
        refine r_iald hx (by decide) rfl e6 b7 rfl dX4_figureBeforeLast_16 ?_
        refine r_ifle (tgt := 38) hx rfl dX4_figureBeforeLast_17 (fun q8 => ?_) (fun q8 => ?_)
        · have hf := (f_ite hf).1 q8
          refine r_sub [0, 2] rfl ?_
          exact L38  v3 μ e_v0 hf
        · have hf := (f_ite hf).2 q8
          refine r_aloadn hx 0 rfl rfl dX4_figureBeforeLast_20 ?_
          refine r_getR hx (c' := 28) (i' := 0) FK4_3 e_v0 rfl wf_X4_19 dX4_figureBeforeLast_21 (fun e9 => ?_)
          refine r_iloadn hx 2 rfl rfl dX4_figureBeforeLast_24 ?_
          refine r_iald hx (by decide) rfl e9 b7 rfl dX4_figureBeforeLast_25 ?_
          refine r_iconst hx ci_1 dX4_figureBeforeLast_26 ?_
          refine r_isub hx dX4_figureBeforeLast_27 ?_
          refine r_bipush hx cb_8 dX4_figureBeforeLast_28 ?_
          refine r_idiv hx (by decide) dX4_figureBeforeLast_30 ?_
          refine r_istoren (lv' := [(3, .int (((gi μ 28 0 v3.toNatClampNeg) - 1) / 8)), (0, .ref (kad k 4 0)), (2, .int v2), (4, .int v4)]) hx rfl (Nat.le_of_ble_eq_true rfl) rfl dX4_figureBeforeLast_31 ?_
          refine r_iinc (lv' := [(4, .int (v4 + 1)), (3, .int (((gi μ 28 0 v3.toNatClampNeg) - 1) / 8)), (0, .ref (kad k 4 0)), (2, .int v2)]) hx 3 rfl (congrArg (fun y => v4 + y) ci_1) (Nat.le_of_ble_eq_true rfl) rfl dX4_figureBeforeLast_32 ?_
          refine r_goto (tgt := 5) hx rfl dX4_figureBeforeLast_35 ?_
          refine r_sub [2, 3, 1, 0] rfl ?_
          exact ih v2 (((gi μ 28 0 v3.toNatClampNeg) - 1) / 8) (v4 + 1) μ e_v0 hf
  unfold fX4_figureBeforeLast at hf
  refine r_iloadn hx 1 rfl rfl dX4_figureBeforeLast_0 ?_
  refine r_istoren (lv' := [(3, .int a1), (0, .ref (kad k 4 0)), (1, .int a1), (2, .int a2)]) hx rfl (Nat.le_of_ble_eq_true rfl) rfl dX4_figureBeforeLast_1 ?_
  refine r_iconst hx ci_0 dX4_figureBeforeLast_2 ?_
  refine r_istore (lv' := [(4, .int 0), (3, .int a1), (0, .ref (kad k 4 0)), (1, .int a1), (2, .int a2)]) hx (Nat.le_of_ble_eq_true rfl) rfl dX4_figureBeforeLast_3 ?_
  refine r_sub [2, 4, 1, 0] rfl ?_
  exact L5 F a2 a1 0 μ e_this hf
theorem dX7_hasRoom_0 : decode bX7_hasRoom 0 = .ok (.aload_n 0, 1) := by decide +kernel
theorem dX7_hasRoom_1 : decode bX7_hasRoom 1 = .ok (.getfield 27, 3) := by decide +kernel
theorem dX7_hasRoom_4 : decode bX7_hasRoom 4 = .ok (.iload_n 1, 1) := by decide +kernel
theorem dX7_hasRoom_5 : decode bX7_hasRoom 5 = .ok (.iadd, 1) := by decide +kernel
theorem dX7_hasRoom_6 : decode bX7_hasRoom 6 = .ok (.sipush 2000, 3) := by decide +kernel
theorem dX7_hasRoom_9 : decode bX7_hasRoom 9 = .ok (.if_icmp .gt 7, 3) := by decide +kernel
theorem dX7_hasRoom_12 : decode bX7_hasRoom 12 = .ok (.iconst 1, 1) := by decide +kernel
theorem dX7_hasRoom_13 : decode bX7_hasRoom 13 = .ok (.goto 4, 3) := by decide +kernel
theorem dX7_hasRoom_16 : decode bX7_hasRoom 16 = .ok (.iconst 0, 1) := by decide +kernel
theorem dX7_hasRoom_17 : decode bX7_hasRoom 17 = .ok (.ireturn, 1) := by decide +kernel
set_option maxRecDepth 20000 in
set_option maxHeartbeats 4000000 in
theorem cX7_hasRoom {l : Launch} {k : Kx} {F : Nat} {a1 : Int32} {μ μ' : Mm} {r : Int32} (hk : kok k) (e_this : kex k 7 0) (hf : fX7_hasRoom F a1 μ = some (r, μ')) : MM l k 0 yX7_hasRoom bX7_hasRoom 2 (some .boolean) [.ref (kad k 7 0), .int a1] μ (some (.int r)) μ' := by
  refine MM.of (lv := [(0, .ref (kad k 7 0)), (1, .int a1)]) (plainFor_of_name (by decide)) hk (Nat.le_of_ble_eq_true rfl) rfl (fun z hl hx => ?_)
  subst hl
  have hx : Ok z k bX7_hasRoom 2 "RopeDance$Tape" (some .boolean) 0 (0, 0) := hx
  unfold fX7_hasRoom at hf
  refine r_aloadn hx 0 rfl rfl dX7_hasRoom_0 ?_
  refine r_getI hx FK7_0 e_this wf_X7_27 dX7_hasRoom_1 ?_
  refine r_iloadn hx 1 rfl rfl dX7_hasRoom_4 ?_
  refine r_iadd hx dX7_hasRoom_5 ?_
  refine r_sipush hx cs_2000 dX7_hasRoom_6 ?_
  refine r_icgt (tgt := 16) hx rfl dX7_hasRoom_9 (fun q1 => ?_) (fun q1 => ?_)
  · have hf := (f_ite hf).1 q1
    refine r_iconst hx ci_0 dX7_hasRoom_16 ?_
    exact r_zret hx hf rfl dX7_hasRoom_17
  · have hf := (f_ite hf).2 q1
    refine r_iconst hx ci_1 dX7_hasRoom_12 ?_
    refine r_goto (tgt := 17) hx rfl dX7_hasRoom_13 ?_
    exact r_zret hx hf rfl dX7_hasRoom_17
theorem dX7_append_0 : decode bX7_append 0 = .ok (.aload_n 0, 1) := by decide +kernel
theorem dX7_append_1 : decode bX7_append 1 = .ok (.iconst 4, 1) := by decide +kernel
theorem dX7_append_2 : decode bX7_append 2 = .ok (.invokevirtual 31, 3) := by decide +kernel
theorem dX7_append_5 : decode bX7_append 5 = .ok (.ifCond .ne 4, 3) := by decide +kernel
theorem dX7_append_8 : decode bX7_append 8 = .ok (.return_, 1) := by decide +kernel
theorem dX7_append_9 : decode bX7_append 9 = .ok (.aload_n 0, 1) := by decide +kernel
theorem dX7_append_10 : decode bX7_append 10 = .ok (.getfield 9, 3) := by decide +kernel
theorem dX7_append_13 : decode bX7_append 13 = .ok (.aload_n 0, 1) := by decide +kernel
theorem dX7_append_14 : decode bX7_append 14 = .ok (.getfield 27, 3) := by decide +kernel
theorem dX7_append_17 : decode bX7_append 17 = .ok (.iload_n 1, 1) := by decide +kernel
theorem dX7_append_18 : decode bX7_append 18 = .ok (.bipush 24, 2) := by decide +kernel
theorem dX7_append_20 : decode bX7_append 20 = .ok (.ishr, 1) := by decide +kernel
theorem dX7_append_21 : decode bX7_append 21 = .ok (.i2b, 1) := by decide +kernel
theorem dX7_append_22 : decode bX7_append 22 = .ok (.bastore, 1) := by decide +kernel
theorem dX7_append_23 : decode bX7_append 23 = .ok (.aload_n 0, 1) := by decide +kernel
theorem dX7_append_24 : decode bX7_append 24 = .ok (.getfield 9, 3) := by decide +kernel
theorem dX7_append_27 : decode bX7_append 27 = .ok (.aload_n 0, 1) := by decide +kernel
theorem dX7_append_28 : decode bX7_append 28 = .ok (.getfield 27, 3) := by decide +kernel
theorem dX7_append_31 : decode bX7_append 31 = .ok (.iconst 1, 1) := by decide +kernel
theorem dX7_append_32 : decode bX7_append 32 = .ok (.iadd, 1) := by decide +kernel
theorem dX7_append_33 : decode bX7_append 33 = .ok (.iload_n 1, 1) := by decide +kernel
theorem dX7_append_34 : decode bX7_append 34 = .ok (.bipush 16, 2) := by decide +kernel
theorem dX7_append_36 : decode bX7_append 36 = .ok (.ishr, 1) := by decide +kernel
theorem dX7_append_37 : decode bX7_append 37 = .ok (.i2b, 1) := by decide +kernel
theorem dX7_append_38 : decode bX7_append 38 = .ok (.bastore, 1) := by decide +kernel
theorem dX7_append_39 : decode bX7_append 39 = .ok (.aload_n 0, 1) := by decide +kernel
theorem dX7_append_40 : decode bX7_append 40 = .ok (.getfield 9, 3) := by decide +kernel
theorem dX7_append_43 : decode bX7_append 43 = .ok (.aload_n 0, 1) := by decide +kernel
theorem dX7_append_44 : decode bX7_append 44 = .ok (.getfield 27, 3) := by decide +kernel
theorem dX7_append_47 : decode bX7_append 47 = .ok (.iconst 2, 1) := by decide +kernel
theorem dX7_append_48 : decode bX7_append 48 = .ok (.iadd, 1) := by decide +kernel
theorem dX7_append_49 : decode bX7_append 49 = .ok (.iload_n 1, 1) := by decide +kernel
theorem dX7_append_50 : decode bX7_append 50 = .ok (.bipush 8, 2) := by decide +kernel
theorem dX7_append_52 : decode bX7_append 52 = .ok (.ishr, 1) := by decide +kernel
theorem dX7_append_53 : decode bX7_append 53 = .ok (.i2b, 1) := by decide +kernel
theorem dX7_append_54 : decode bX7_append 54 = .ok (.bastore, 1) := by decide +kernel
theorem dX7_append_55 : decode bX7_append 55 = .ok (.aload_n 0, 1) := by decide +kernel
theorem dX7_append_56 : decode bX7_append 56 = .ok (.getfield 9, 3) := by decide +kernel
theorem dX7_append_59 : decode bX7_append 59 = .ok (.aload_n 0, 1) := by decide +kernel
theorem dX7_append_60 : decode bX7_append 60 = .ok (.getfield 27, 3) := by decide +kernel
theorem dX7_append_63 : decode bX7_append 63 = .ok (.iconst 3, 1) := by decide +kernel
theorem dX7_append_64 : decode bX7_append 64 = .ok (.iadd, 1) := by decide +kernel
theorem dX7_append_65 : decode bX7_append 65 = .ok (.iload_n 1, 1) := by decide +kernel
theorem dX7_append_66 : decode bX7_append 66 = .ok (.i2b, 1) := by decide +kernel
theorem dX7_append_67 : decode bX7_append 67 = .ok (.bastore, 1) := by decide +kernel
theorem dX7_append_68 : decode bX7_append 68 = .ok (.aload_n 0, 1) := by decide +kernel
theorem dX7_append_69 : decode bX7_append 69 = .ok (.dup, 1) := by decide +kernel
theorem dX7_append_70 : decode bX7_append 70 = .ok (.getfield 27, 3) := by decide +kernel
theorem dX7_append_73 : decode bX7_append 73 = .ok (.iconst 4, 1) := by decide +kernel
theorem dX7_append_74 : decode bX7_append 74 = .ok (.iadd, 1) := by decide +kernel
theorem dX7_append_75 : decode bX7_append 75 = .ok (.putfield 27, 3) := by decide +kernel
theorem dX7_append_78 : decode bX7_append 78 = .ok (.return_, 1) := by decide +kernel
set_option maxRecDepth 20000 in
set_option maxHeartbeats 4000000 in
theorem cX7_append {l : Launch} {k : Kx} {F : Nat} {a1 : Int32} {μ μ' : Mm} (hk : kok k) (e_this : kex k 7 0) (hf : fX7_append F a1 μ = some μ') : MM l k 1 yX7_append bX7_append 2 none [.ref (kad k 7 0), .int a1] μ none μ' := by
  refine MM.of (lv := [(0, .ref (kad k 7 0)), (1, .int a1)]) (plainFor_of_name (by decide)) hk (Nat.le_of_ble_eq_true rfl) rfl (fun z hl hx => ?_)
  subst hl
  have hx : Ok z k bX7_append 2 "RopeDance$Tape" none 1 (0, 0) := hx
  unfold fX7_append at hf
  refine r_aloadn hx 0 rfl rfl dX7_append_0 ?_
  refine r_iconst hx ci_4 dX7_append_1 ?_
  obtain ⟨r3, μ2, c1, hf⟩ := f_bd2 hf
  refine r_callV hx (As := [.int 4]) (rest := []) (st1 := [.int r3]) (c := 7) (i := 0) (TT := T7) (N := 11) MK_X7_hasRoom rfl wi_X7_hasRoom we_X7_hasRoom wm_X7_31 ⟨Nat.le_refl _, Nat.le_refl _⟩ (cX7_hasRoom hk e_this c1) e_this (Nat.le_of_ble_eq_true rfl) rfl rfl (Nat.le_of_ble_eq_true rfl) rfl dX7_append_2 (fun hb4 => ?_)
  refine r_ifne (tgt := 9) hx rfl dX7_append_5 (fun q5 => ?_) (fun q5 => ?_)
  · have hf := (f_ite hf).2 q5
    refine r_aloadn hx 0 rfl rfl dX7_append_9 ?_
    refine r_getR hx (c' := 29) (i' := 0) FK7_6 e_this rfl wf_X7_9 dX7_append_10 (fun e6 => ?_)
    refine r_aloadn hx 0 rfl rfl dX7_append_13 ?_
    refine r_getI hx FK7_0 e_this wf_X7_27 dX7_append_14 ?_
    refine r_iloadn hx 1 rfl rfl dX7_append_17 ?_
    refine r_bipush hx cb_24 dX7_append_18 ?_
    refine r_ishr hx dX7_append_20 ?_
    refine r_i2b hx dX7_append_21 ?_
    obtain ⟨b7, hf⟩ := f_chk hf
    refine r_bast hx (by decide) rfl e6 b7 rfl dX7_append_22 ?_
    refine r_aloadn hx 0 rfl rfl dX7_append_23 ?_
    refine r_getR hx (c' := 29) (i' := 0) FK7_6 e_this rfl wf_X7_9 dX7_append_24 (fun e8 => ?_)
    refine r_aloadn hx 0 rfl rfl dX7_append_27 ?_
    refine r_getI hx FK7_0 e_this wf_X7_27 dX7_append_28 ?_
    refine r_iconst hx ci_1 dX7_append_31 ?_
    refine r_iadd hx dX7_append_32 ?_
    refine r_iloadn hx 1 rfl rfl dX7_append_33 ?_
    refine r_bipush hx cb_16 dX7_append_34 ?_
    refine r_ishr hx dX7_append_36 ?_
    refine r_i2b hx dX7_append_37 ?_
    obtain ⟨b9, hf⟩ := f_chk hf
    refine r_bast hx (by decide) rfl e8 b9 rfl dX7_append_38 ?_
    refine r_aloadn hx 0 rfl rfl dX7_append_39 ?_
    refine r_getR hx (c' := 29) (i' := 0) FK7_6 e_this rfl wf_X7_9 dX7_append_40 (fun e10 => ?_)
    refine r_aloadn hx 0 rfl rfl dX7_append_43 ?_
    refine r_getI hx FK7_0 e_this wf_X7_27 dX7_append_44 ?_
    refine r_iconst hx ci_2 dX7_append_47 ?_
    refine r_iadd hx dX7_append_48 ?_
    refine r_iloadn hx 1 rfl rfl dX7_append_49 ?_
    refine r_bipush hx cb_8 dX7_append_50 ?_
    refine r_ishr hx dX7_append_52 ?_
    refine r_i2b hx dX7_append_53 ?_
    obtain ⟨b11, hf⟩ := f_chk hf
    refine r_bast hx (by decide) rfl e10 b11 rfl dX7_append_54 ?_
    refine r_aloadn hx 0 rfl rfl dX7_append_55 ?_
    refine r_getR hx (c' := 29) (i' := 0) FK7_6 e_this rfl wf_X7_9 dX7_append_56 (fun e12 => ?_)
    refine r_aloadn hx 0 rfl rfl dX7_append_59 ?_
    refine r_getI hx FK7_0 e_this wf_X7_27 dX7_append_60 ?_
    refine r_iconst hx ci_3 dX7_append_63 ?_
    refine r_iadd hx dX7_append_64 ?_
    refine r_iloadn hx 1 rfl rfl dX7_append_65 ?_
    refine r_i2b hx dX7_append_66 ?_
    obtain ⟨b13, hf⟩ := f_chk hf
    refine r_bast hx (by decide) rfl e12 b13 rfl dX7_append_67 ?_
    refine r_aloadn hx 0 rfl rfl dX7_append_68 ?_
    refine r_dup hx rfl dX7_append_69 ?_
    refine r_getI hx FK7_0 e_this wf_X7_27 dX7_append_70 ?_
    refine r_iconst hx ci_4 dX7_append_73 ?_
    refine r_iadd hx dX7_append_74 ?_
    refine r_putI (ty := .int) hx FK7_0 (fun T N h => by cases h; rfl) e_this wf_X7_27 (by decide +kernel) rfl rfl dX7_append_75 ?_
    exact r_vret hx hf dX7_append_78
  · have hf := (f_ite hf).1 q5
    exact r_vret hx hf dX7_append_8
theorem dX9_add_0 : decode bX9_add 0 = .ok (.aload_n 0, 1) := by decide +kernel
theorem dX9_add_1 : decode bX9_add 1 = .ok (.getfield 35, 3) := by decide +kernel
theorem dX9_add_4 : decode bX9_add 4 = .ok (.bipush 20, 2) := by decide +kernel
theorem dX9_add_6 : decode bX9_add 6 = .ok (.if_icmp .ge 22, 3) := by decide +kernel
theorem dX9_add_9 : decode bX9_add 9 = .ok (.iload_n 1, 1) := by decide +kernel
theorem dX9_add_10 : decode bX9_add 10 = .ok (.iconst 1, 1) := by decide +kernel
theorem dX9_add_11 : decode bX9_add 11 = .ok (.if_icmp .lt 17, 3) := by decide +kernel
theorem dX9_add_14 : decode bX9_add 14 = .ok (.iload_n 1, 1) := by decide +kernel
theorem dX9_add_15 : decode bX9_add 15 = .ok (.iconst 4, 1) := by decide +kernel
theorem dX9_add_16 : decode bX9_add 16 = .ok (.if_icmp .gt 12, 3) := by decide +kernel
theorem dX9_add_19 : decode bX9_add 19 = .ok (.iload_n 2, 1) := by decide +kernel
theorem dX9_add_20 : decode bX9_add 20 = .ok (.ifCond .lt 8, 3) := by decide +kernel
theorem dX9_add_23 : decode bX9_add 23 = .ok (.iload_n 2, 1) := by decide +kernel
theorem dX9_add_24 : decode bX9_add 24 = .ok (.iconst 2, 1) := by decide +kernel
theorem dX9_add_25 : decode bX9_add 25 = .ok (.if_icmp .le 5, 3) := by decide +kernel
theorem dX9_add_28 : decode bX9_add 28 = .ok (.iconst (-1), 1) := by decide +kernel
theorem dX9_add_29 : decode bX9_add 29 = .ok (.ireturn, 1) := by decide +kernel
theorem dX9_add_30 : decode bX9_add 30 = .ok (.aload_n 0, 1) := by decide +kernel
theorem dX9_add_31 : decode bX9_add 31 = .ok (.getfield 11, 3) := by decide +kernel
theorem dX9_add_34 : decode bX9_add 34 = .ok (.aload_n 0, 1) := by decide +kernel
theorem dX9_add_35 : decode bX9_add 35 = .ok (.getfield 35, 3) := by decide +kernel
theorem dX9_add_38 : decode bX9_add 38 = .ok (.iload_n 1, 1) := by decide +kernel
theorem dX9_add_39 : decode bX9_add 39 = .ok (.iastore, 1) := by decide +kernel
theorem dX9_add_40 : decode bX9_add 40 = .ok (.aload_n 0, 1) := by decide +kernel
theorem dX9_add_41 : decode bX9_add 41 = .ok (.getfield 15, 3) := by decide +kernel
theorem dX9_add_44 : decode bX9_add 44 = .ok (.aload_n 0, 1) := by decide +kernel
theorem dX9_add_45 : decode bX9_add 45 = .ok (.getfield 35, 3) := by decide +kernel
theorem dX9_add_48 : decode bX9_add 48 = .ok (.iload_n 2, 1) := by decide +kernel
theorem dX9_add_49 : decode bX9_add 49 = .ok (.iastore, 1) := by decide +kernel
theorem dX9_add_50 : decode bX9_add 50 = .ok (.aload_n 0, 1) := by decide +kernel
theorem dX9_add_51 : decode bX9_add 51 = .ok (.getfield 18, 3) := by decide +kernel
theorem dX9_add_54 : decode bX9_add 54 = .ok (.aload_n 0, 1) := by decide +kernel
theorem dX9_add_55 : decode bX9_add 55 = .ok (.getfield 35, 3) := by decide +kernel
theorem dX9_add_58 : decode bX9_add 58 = .ok (.iload_n 3, 1) := by decide +kernel
theorem dX9_add_59 : decode bX9_add 59 = .ok (.bastore, 1) := by decide +kernel
theorem dX9_add_60 : decode bX9_add 60 = .ok (.aload_n 0, 1) := by decide +kernel
theorem dX9_add_61 : decode bX9_add 61 = .ok (.dup, 1) := by decide +kernel
theorem dX9_add_62 : decode bX9_add 62 = .ok (.getfield 35, 3) := by decide +kernel
theorem dX9_add_65 : decode bX9_add 65 = .ok (.iconst 1, 1) := by decide +kernel
theorem dX9_add_66 : decode bX9_add 66 = .ok (.iadd, 1) := by decide +kernel
theorem dX9_add_67 : decode bX9_add 67 = .ok (.putfield 35, 3) := by decide +kernel
theorem dX9_add_70 : decode bX9_add 70 = .ok (.aload_n 0, 1) := by decide +kernel
theorem dX9_add_71 : decode bX9_add 71 = .ok (.getfield 35, 3) := by decide +kernel
theorem dX9_add_74 : decode bX9_add 74 = .ok (.iconst 1, 1) := by decide +kernel
theorem dX9_add_75 : decode bX9_add 75 = .ok (.isub, 1) := by decide +kernel
theorem dX9_add_76 : decode bX9_add 76 = .ok (.ireturn, 1) := by decide +kernel
set_option maxRecDepth 20000 in
set_option maxHeartbeats 4000000 in
theorem cX9_add {l : Launch} {k : Kx} {F : Nat} {a1 : Int32} {a2 : Int32} {a3 : Int32} {μ μ' : Mm} {r : Int32} (hk : kok k) (e_this : kex k 9 0) (hf : fX9_add F a1 a2 a3 μ = some (r, μ')) : MM l k 0 yX9_add bX9_add 4 (some .int) [.ref (kad k 9 0), .int a1, .int a2, .int a3] μ (some (.int r)) μ' := by
  refine MM.of (lv := [(0, .ref (kad k 9 0)), (1, .int a1), (2, .int a2), (3, .int a3)]) (plainFor_of_name (by decide)) hk (Nat.le_of_ble_eq_true rfl) rfl (fun z hl hx => ?_)
  subst hl
  have hx : Ok z k bX9_add 4 "RopeDance$Told" (some .int) 0 (0, 0) := hx
  unfold fX9_add at hf
  refine r_aloadn hx 0 rfl rfl dX9_add_0 ?_
  refine r_getI hx FK9_0 e_this wf_X9_35 dX9_add_1 ?_
  refine r_bipush hx cb_20 dX9_add_4 ?_
  refine r_icge (tgt := 28) hx rfl dX9_add_6 (fun q1 => ?_) (fun q1 => ?_)
  · have hf := (f_ite hf).1 q1
    refine r_iconst hx ci_m1 dX9_add_28 ?_
    exact r_iret hx hf dX9_add_29
  · have hf := (f_ite hf).2 q1
    refine r_iloadn hx 1 rfl rfl dX9_add_9 ?_
    refine r_iconst hx ci_1 dX9_add_10 ?_
    refine r_iclt (tgt := 28) hx rfl dX9_add_11 (fun q2 => ?_) (fun q2 => ?_)
    · have hf := (f_ite hf).1 q2
      refine r_iconst hx ci_m1 dX9_add_28 ?_
      exact r_iret hx hf dX9_add_29
    · have hf := (f_ite hf).2 q2
      refine r_iloadn hx 1 rfl rfl dX9_add_14 ?_
      refine r_iconst hx ci_4 dX9_add_15 ?_
      refine r_icgt (tgt := 28) hx rfl dX9_add_16 (fun q3 => ?_) (fun q3 => ?_)
      · have hf := (f_ite hf).1 q3
        refine r_iconst hx ci_m1 dX9_add_28 ?_
        exact r_iret hx hf dX9_add_29
      · have hf := (f_ite hf).2 q3
        refine r_iloadn hx 2 rfl rfl dX9_add_19 ?_
        refine r_iflt (tgt := 28) hx rfl dX9_add_20 (fun q4 => ?_) (fun q4 => ?_)
        · have hf := (f_ite hf).1 q4
          refine r_iconst hx ci_m1 dX9_add_28 ?_
          exact r_iret hx hf dX9_add_29
        · have hf := (f_ite hf).2 q4
          refine r_iloadn hx 2 rfl rfl dX9_add_23 ?_
          refine r_iconst hx ci_2 dX9_add_24 ?_
          refine r_icle (tgt := 30) hx rfl dX9_add_25 (fun q5 => ?_) (fun q5 => ?_)
          · have hf := (f_ite hf).1 q5
            refine r_aloadn hx 0 rfl rfl dX9_add_30 ?_
            refine r_getR hx (c' := 41) (i' := 0) FK9_3 e_this rfl wf_X9_11 dX9_add_31 (fun e6 => ?_)
            refine r_aloadn hx 0 rfl rfl dX9_add_34 ?_
            refine r_getI hx FK9_0 e_this wf_X9_35 dX9_add_35 ?_
            refine r_iloadn hx 1 rfl rfl dX9_add_38 ?_
            obtain ⟨b7, hf⟩ := f_chk hf
            refine r_iast hx (by decide) rfl e6 b7 rfl dX9_add_39 ?_
            refine r_aloadn hx 0 rfl rfl dX9_add_40 ?_
            refine r_getR hx (c' := 42) (i' := 0) FK9_4 e_this rfl wf_X9_15 dX9_add_41 (fun e8 => ?_)
            refine r_aloadn hx 0 rfl rfl dX9_add_44 ?_
            refine r_getI hx FK9_0 e_this wf_X9_35 dX9_add_45 ?_
            refine r_iloadn hx 2 rfl rfl dX9_add_48 ?_
            obtain ⟨b9, hf⟩ := f_chk hf
            refine r_iast hx (by decide) rfl e8 b9 rfl dX9_add_49 ?_
            refine r_aloadn hx 0 rfl rfl dX9_add_50 ?_
            refine r_getR hx (c' := 43) (i' := 0) FK9_5 e_this rfl wf_X9_18 dX9_add_51 (fun e10 => ?_)
            refine r_aloadn hx 0 rfl rfl dX9_add_54 ?_
            refine r_getI hx FK9_0 e_this wf_X9_35 dX9_add_55 ?_
            refine r_iloadn hx 3 rfl rfl dX9_add_58 ?_
            obtain ⟨b11, hf⟩ := f_chk hf
            refine r_zast hx (by decide) rfl e10 b11 rfl dX9_add_59 ?_
            refine r_aloadn hx 0 rfl rfl dX9_add_60 ?_
            refine r_dup hx rfl dX9_add_61 ?_
            refine r_getI hx FK9_0 e_this wf_X9_35 dX9_add_62 ?_
            refine r_iconst hx ci_1 dX9_add_65 ?_
            refine r_iadd hx dX9_add_66 ?_
            refine r_putI (ty := .int) hx FK9_0 (fun T N h => by cases h; rfl) e_this wf_X9_35 (by decide +kernel) rfl rfl dX9_add_67 ?_
            refine r_aloadn hx 0 rfl rfl dX9_add_70 ?_
            refine r_getI hx FK9_0 e_this wf_X9_35 dX9_add_71 ?_
            refine r_iconst hx ci_1 dX9_add_74 ?_
            refine r_isub hx dX9_add_75 ?_
            exact r_iret hx hf dX9_add_76
          · have hf := (f_ite hf).2 q5
            refine r_iconst hx ci_m1 dX9_add_28 ?_
            exact r_iret hx hf dX9_add_29
theorem dX9_canHear_0 : decode bX9_canHear 0 = .ok (.iload_n 1, 1) := by decide +kernel
theorem dX9_canHear_1 : decode bX9_canHear 1 = .ok (.ifCond .lt 25, 3) := by decide +kernel
theorem dX9_canHear_4 : decode bX9_canHear 4 = .ok (.iload_n 1, 1) := by decide +kernel
theorem dX9_canHear_5 : decode bX9_canHear 5 = .ok (.aload_n 0, 1) := by decide +kernel
theorem dX9_canHear_6 : decode bX9_canHear 6 = .ok (.getfield 35, 3) := by decide +kernel
theorem dX9_canHear_9 : decode bX9_canHear 9 = .ok (.if_icmp .gt 17, 3) := by decide +kernel
theorem dX9_canHear_12 : decode bX9_canHear 12 = .ok (.iload_n 2, 1) := by decide +kernel
theorem dX9_canHear_13 : decode bX9_canHear 13 = .ok (.iconst 1, 1) := by decide +kernel
theorem dX9_canHear_14 : decode bX9_canHear 14 = .ok (.if_icmp .lt 12, 3) := by decide +kernel
theorem dX9_canHear_17 : decode bX9_canHear 17 = .ok (.iload_n 2, 1) := by decide +kernel
theorem dX9_canHear_18 : decode bX9_canHear 18 = .ok (.iconst 4, 1) := by decide +kernel
theorem dX9_canHear_19 : decode bX9_canHear 19 = .ok (.if_icmp .gt 7, 3) := by decide +kernel
theorem dX9_canHear_22 : decode bX9_canHear 22 = .ok (.iconst 1, 1) := by decide +kernel
theorem dX9_canHear_23 : decode bX9_canHear 23 = .ok (.goto 4, 3) := by decide +kernel
theorem dX9_canHear_26 : decode bX9_canHear 26 = .ok (.iconst 0, 1) := by decide +kernel
theorem dX9_canHear_27 : decode bX9_canHear 27 = .ok (.ireturn, 1) := by decide +kernel
set_option maxRecDepth 20000 in
set_option maxHeartbeats 4000000 in
theorem cX9_canHear {l : Launch} {k : Kx} {F : Nat} {a1 : Int32} {a2 : Int32} {μ μ' : Mm} {r : Int32} (hk : kok k) (e_this : kex k 9 0) (hf : fX9_canHear F a1 a2 μ = some (r, μ')) : MM l k 0 yX9_canHear bX9_canHear 3 (some .boolean) [.ref (kad k 9 0), .int a1, .int a2] μ (some (.int r)) μ' := by
  refine MM.of (lv := [(0, .ref (kad k 9 0)), (1, .int a1), (2, .int a2)]) (plainFor_of_name (by decide)) hk (Nat.le_of_ble_eq_true rfl) rfl (fun z hl hx => ?_)
  subst hl
  have hx : Ok z k bX9_canHear 3 "RopeDance$Told" (some .boolean) 0 (0, 0) := hx
  unfold fX9_canHear at hf
  refine r_iloadn hx 1 rfl rfl dX9_canHear_0 ?_
  refine r_iflt (tgt := 26) hx rfl dX9_canHear_1 (fun q1 => ?_) (fun q1 => ?_)
  · have hf := (f_ite hf).1 q1
    refine r_iconst hx ci_0 dX9_canHear_26 ?_
    exact r_zret hx hf rfl dX9_canHear_27
  · have hf := (f_ite hf).2 q1
    refine r_iloadn hx 1 rfl rfl dX9_canHear_4 ?_
    refine r_aloadn hx 0 rfl rfl dX9_canHear_5 ?_
    refine r_getI hx FK9_0 e_this wf_X9_35 dX9_canHear_6 ?_
    refine r_icgt (tgt := 26) hx rfl dX9_canHear_9 (fun q2 => ?_) (fun q2 => ?_)
    · have hf := (f_ite hf).1 q2
      refine r_iconst hx ci_0 dX9_canHear_26 ?_
      exact r_zret hx hf rfl dX9_canHear_27
    · have hf := (f_ite hf).2 q2
      refine r_iloadn hx 2 rfl rfl dX9_canHear_12 ?_
      refine r_iconst hx ci_1 dX9_canHear_13 ?_
      refine r_iclt (tgt := 26) hx rfl dX9_canHear_14 (fun q3 => ?_) (fun q3 => ?_)
      · have hf := (f_ite hf).1 q3
        refine r_iconst hx ci_0 dX9_canHear_26 ?_
        exact r_zret hx hf rfl dX9_canHear_27
      · have hf := (f_ite hf).2 q3
        refine r_iloadn hx 2 rfl rfl dX9_canHear_17 ?_
        refine r_iconst hx ci_4 dX9_canHear_18 ?_
        refine r_icgt (tgt := 26) hx rfl dX9_canHear_19 (fun q4 => ?_) (fun q4 => ?_)
        · have hf := (f_ite hf).1 q4
          refine r_iconst hx ci_0 dX9_canHear_26 ?_
          exact r_zret hx hf rfl dX9_canHear_27
        · have hf := (f_ite hf).2 q4
          refine r_iconst hx ci_1 dX9_canHear_22 ?_
          refine r_goto (tgt := 27) hx rfl dX9_canHear_23 ?_
          exact r_zret hx hf rfl dX9_canHear_27
theorem dX9_canBeCalled_0 : decode bX9_canBeCalled 0 = .ok (.iload 4, 2) := by decide +kernel
theorem dX9_canBeCalled_2 : decode bX9_canBeCalled 2 = .ok (.istore 6, 2) := by decide +kernel
theorem dX9_canBeCalled_4 : decode bX9_canBeCalled 4 = .ok (.aload_n 0, 1) := by decide +kernel
theorem dX9_canBeCalled_5 : decode bX9_canBeCalled 5 = .ok (.getfield 25, 3) := by decide +kernel
theorem dX9_canBeCalled_8 : decode bX9_canBeCalled 8 = .ok (.aload_n 2, 1) := by decide +kernel
theorem dX9_canBeCalled_9 : decode bX9_canBeCalled 9 = .ok (.invokevirtual 62, 3) := by decide +kernel
theorem dX9_canBeCalled_12 : decode bX9_canBeCalled 12 = .ok (.iconst 0, 1) := by decide +kernel
theorem dX9_canBeCalled_13 : decode bX9_canBeCalled 13 = .ok (.istore 7, 2) := by decide +kernel
theorem dX9_canBeCalled_15 : decode bX9_canBeCalled 15 = .ok (.iload 7, 2) := by decide +kernel
theorem dX9_canBeCalled_17 : decode bX9_canBeCalled 17 = .ok (.iload 5, 2) := by decide +kernel
theorem dX9_canBeCalled_19 : decode bX9_canBeCalled 19 = .ok (.if_icmp .ge 85, 3) := by decide +kernel
theorem dX9_canBeCalled_22 : decode bX9_canBeCalled 22 = .ok (.iload 7, 2) := by decide +kernel
theorem dX9_canBeCalled_24 : decode bX9_canBeCalled 24 = .ok (.iconst 4, 1) := by decide +kernel
theorem dX9_canBeCalled_25 : decode bX9_canBeCalled 25 = .ok (.if_icmp .ge 79, 3) := by decide +kernel
theorem dX9_canBeCalled_28 : decode bX9_canBeCalled 28 = .ok (.iload 6, 2) := by decide +kernel
theorem dX9_canBeCalled_30 : decode bX9_canBeCalled 30 = .ok (.ifCond .le 74, 3) := by decide +kernel
theorem dX9_canBeCalled_33 : decode bX9_canBeCalled 33 = .ok (.aload_n 1, 1) := by decide +kernel
theorem dX9_canBeCalled_34 : decode bX9_canBeCalled 34 = .ok (.getfield 45, 3) := by decide +kernel
theorem dX9_canBeCalled_37 : decode bX9_canBeCalled 37 = .ok (.ifCond .le 67, 3) := by decide +kernel
theorem dX9_canBeCalled_40 : decode bX9_canBeCalled 40 = .ok (.aload_n 1, 1) := by decide +kernel
theorem dX9_canBeCalled_41 : decode bX9_canBeCalled 41 = .ok (.getfield 66, 3) := by decide +kernel
theorem dX9_canBeCalled_44 : decode bX9_canBeCalled 44 = .ok (.iload_n 3, 1) := by decide +kernel
theorem dX9_canBeCalled_45 : decode bX9_canBeCalled 45 = .ok (.iload 6, 2) := by decide +kernel
theorem dX9_canBeCalled_47 : decode bX9_canBeCalled 47 = .ok (.idiv, 1) := by decide +kernel
theorem dX9_canBeCalled_48 : decode bX9_canBeCalled 48 = .ok (.aload_n 1, 1) := by decide +kernel
theorem dX9_canBeCalled_49 : decode bX9_canBeCalled 49 = .ok (.getfield 45, 3) := by decide +kernel
theorem dX9_canBeCalled_52 : decode bX9_canBeCalled 52 = .ok (.irem, 1) := by decide +kernel
theorem dX9_canBeCalled_53 : decode bX9_canBeCalled 53 = .ok (.aaload, 1) := by decide +kernel
theorem dX9_canBeCalled_54 : decode bX9_canBeCalled 54 = .ok (.astore 8, 2) := by decide +kernel
theorem dX9_canBeCalled_56 : decode bX9_canBeCalled 56 = .ok (.aload 8, 2) := by decide +kernel
theorem dX9_canBeCalled_58 : decode bX9_canBeCalled 58 = .ok (.aload_n 0, 1) := by decide +kernel
theorem dX9_canBeCalled_59 : decode bX9_canBeCalled 59 = .ok (.getfield 25, 3) := by decide +kernel
theorem dX9_canBeCalled_62 : decode bX9_canBeCalled 62 = .ok (.aload 8, 2) := by decide +kernel
theorem dX9_canBeCalled_64 : decode bX9_canBeCalled 64 = .ok (.getfield 70, 3) := by decide +kernel
theorem dX9_canBeCalled_67 : decode bX9_canBeCalled 67 = .ok (.invokevirtual 73, 3) := by decide +kernel
theorem dX9_canBeCalled_70 : decode bX9_canBeCalled 70 = .ok (.ifCond .ne 5, 3) := by decide +kernel
theorem dX9_canBeCalled_73 : decode bX9_canBeCalled 73 = .ok (.iconst 0, 1) := by decide +kernel
theorem dX9_canBeCalled_74 : decode bX9_canBeCalled 74 = .ok (.ireturn, 1) := by decide +kernel
theorem dX9_canBeCalled_75 : decode bX9_canBeCalled 75 = .ok (.aload_n 0, 1) := by decide +kernel
theorem dX9_canBeCalled_76 : decode bX9_canBeCalled 76 = .ok (.getfield 29, 3) := by decide +kernel
theorem dX9_canBeCalled_79 : decode bX9_canBeCalled 79 = .ok (.iload 7, 2) := by decide +kernel
theorem dX9_canBeCalled_81 : decode bX9_canBeCalled 81 = .ok (.aload_n 0, 1) := by decide +kernel
theorem dX9_canBeCalled_82 : decode bX9_canBeCalled 82 = .ok (.getfield 25, 3) := by decide +kernel
theorem dX9_canBeCalled_85 : decode bX9_canBeCalled 85 = .ok (.invokevirtual 77, 3) := by decide +kernel
theorem dX9_canBeCalled_88 : decode bX9_canBeCalled 88 = .ok (.iastore, 1) := by decide +kernel
theorem dX9_canBeCalled_89 : decode bX9_canBeCalled 89 = .ok (.iload 6, 2) := by decide +kernel
theorem dX9_canBeCalled_91 : decode bX9_canBeCalled 91 = .ok (.aload_n 1, 1) := by decide +kernel
theorem dX9_canBeCalled_92 : decode bX9_canBeCalled 92 = .ok (.getfield 45, 3) := by decide +kernel
theorem dX9_canBeCalled_95 : decode bX9_canBeCalled 95 = .ok (.idiv, 1) := by decide +kernel
theorem dX9_canBeCalled_96 : decode bX9_canBeCalled 96 = .ok (.istore 6, 2) := by decide +kernel
theorem dX9_canBeCalled_98 : decode bX9_canBeCalled 98 = .ok (.iinc 7 1, 3) := by decide +kernel
theorem dX9_canBeCalled_101 : decode bX9_canBeCalled 101 = .ok (.goto (-86), 3) := by decide +kernel
theorem dX9_canBeCalled_104 : decode bX9_canBeCalled 104 = .ok (.iconst 1, 1) := by decide +kernel
theorem dX9_canBeCalled_105 : decode bX9_canBeCalled 105 = .ok (.ireturn, 1) := by decide +kernel
set_option maxRecDepth 20000 in
set_option maxHeartbeats 4000000 in
theorem cX9_canBeCalled {l : Launch} {k : Kx} {F : Nat} {a1 : Nat} {a2 : Nat} {a3 : Int32} {a4 : Int32} {a5 : Int32} {μ μ' : Mm} {r : Int32} (hk : kok k) (e_this : kex k 9 0) (e_a1 : kex k 8 a1) (e_a2 : kex k 5 a2) (hf : fX9_canBeCalled F a1 a2 a3 a4 a5 μ = some (r, μ')) : MM l k 3 yX9_canBeCalled bX9_canBeCalled 9 (some .boolean) [.ref (kad k 9 0), .ref (kad k 8 a1), .ref (kad k 5 a2), .int a3, .int a4, .int a5] μ (some (.int r)) μ' := by
  refine MM.of (lv := [(0, .ref (kad k 9 0)), (1, .ref (kad k 8 a1)), (2, .ref (kad k 5 a2)), (3, .int a3), (4, .int a4), (5, .int a5)]) (plainFor_of_name (by decide)) hk (Nat.le_of_ble_eq_true rfl) rfl (fun z hl hx => ?_)
  subst hl
  have hx : Ok z k bX9_canBeCalled 9 "RopeDance$Told" (some .boolean) 3 (0, 0) := hx
  have L15 : ∀ (n : Nat) (v1 : Nat) (v3 : Int32) (v5 : Int32) (v6 : Int32) (v7 : Int32) (μ : Mm) (e_v0 : kex k 9 0) (e_v1 : kex k 8 v1), fX9_canBeCalled_L15 F n v1 v3 v5 v6 v7 μ = some (r, μ') → Gw z k 9 (k, (0, 0), (some .boolean), (some (.int r)), μ') (0, 0) 15 μ [(0, .ref (kad k 9 0)), (1, .ref (kad k 8 v1)), (3, .int v3), (5, .int v5), (6, .int v6), (7, .int v7)] [] := by
    intro  n
    induction n with
    | zero =>
      intro v1 v3 v5 v6 v7 μ e_v0 e_v1 hf
      exact f_no (show (none : Option (Int32 × Mm)) = _ from hf)
    | succ n ih =>
      intro v1 v3 v5 v6 v7 μ e_v0 e_v1 hf
      rw [fX9_canBeCalled_L15] at hf
      refine r_iload hx 5 rfl dX9_canBeCalled_15 ?_
      refine r_iload hx 3 rfl dX9_canBeCalled_17 ?_
      refine r_icge (tgt := 104) hx rfl dX9_canBeCalled_19 (fun q5 => ?_) (fun q5 => ?_)
      · have hf := (f_ite hf).1 q5
        refine r_iconst hx ci_1 dX9_canBeCalled_104 ?_
        exact r_zret hx hf rfl dX9_canBeCalled_105
      · have hf := (f_ite hf).2 q5
        refine r_iload hx 5 rfl dX9_canBeCalled_22 ?_
        refine r_iconst hx ci_4 dX9_canBeCalled_24 ?_
        refine r_icge (tgt := 104) hx rfl dX9_canBeCalled_25 (fun q6 => ?_) (fun q6 => ?_)
        · have hf := (f_ite hf).1 q6
          refine r_iconst hx ci_1 dX9_canBeCalled_104 ?_
          exact r_zret hx hf rfl dX9_canBeCalled_105
        · have hf := (f_ite hf).2 q6
          refine r_iload hx 4 rfl dX9_canBeCalled_28 ?_
          refine r_ifle (tgt := 104) hx rfl dX9_canBeCalled_30 (fun q7 => ?_) (fun q7 => ?_)
          · have hf := (f_ite hf).1 q7
            refine r_iconst hx ci_1 dX9_canBeCalled_104 ?_
            exact r_zret hx hf rfl dX9_canBeCalled_105
          · have hf := (f_ite hf).2 q7
            refine r_aloadn hx 1 rfl rfl dX9_canBeCalled_33 ?_
            refine r_getI hx FK8_1 e_v1 wf_X9_45 dX9_canBeCalled_34 ?_
            refine r_ifle (tgt := 104) hx rfl dX9_canBeCalled_37 (fun q8 => ?_) (fun q8 => ?_)
            · have hf := (f_ite hf).1 q8
              refine r_iconst hx ci_1 dX9_canBeCalled_104 ?_
              exact r_zret hx hf rfl dX9_canBeCalled_105
            · have hf := (f_ite hf).2 q8
              refine r_aloadn hx 1 rfl rfl dX9_canBeCalled_40 ?_
              refine r_getR hx (c' := 35) (i' := v1) FK8_4 e_v1 rfl wf_X9_66 dX9_canBeCalled_41 (fun e9 => ?_)
              refine r_iloadn hx 2 rfl rfl dX9_canBeCalled_44 ?_
              refine r_iload hx 4 rfl dX9_canBeCalled_45 ?_
              obtain ⟨q10, hf⟩ := f_nz hf
              refine r_idiv hx q10 dX9_canBeCalled_47 ?_
              refine r_aloadn hx 1 rfl rfl dX9_canBeCalled_48 ?_
              refine r_getI hx FK8_1 e_v1 wf_X9_45 dX9_canBeCalled_49 ?_
              obtain ⟨q11, hf⟩ := f_nz hf
              refine r_irem hx q11 dX9_canBeCalled_52 ?_
              obtain ⟨b12, hf⟩ := f_chk hf
              refine r_aald hx (c' := 3) (i' := (9 * v1 + 4 + (irm (v3 / v6) (gi μ 8 v1 1)).toNatClampNeg)) (by decide) (by decide) (by decide) e9 b12 rfl rfl dX9_canBeCalled_53 (fun e13 => ?_)
              refine r_astore (lv' := [(8, .ref (kad k 3 (9 * v1 + 4 + (irm (v3 / v6) (gi μ 8 v1 1)).toNatClampNeg))), (0, .ref (kad k 9 0)), (1, .ref (kad k 8 v1)), (3, .int v3), (5, .int v5), (6, .int v6), (7, .int v7)]) hx (Nat.le_of_ble_eq_true rfl) rfl dX9_canBeCalled_54 ?_
              refine r_aload hx 0 rfl dX9_canBeCalled_56 ?_
              refine r_aloadn hx 1 rfl rfl dX9_canBeCalled_58 ?_
              refine r_getR hx (c' := 5) (i' := 8) FK9_6 e_v0 rfl wf_X9_25 dX9_canBeCalled_59 (fun e14 => ?_)
              refine r_aload hx 0 rfl dX9_canBeCalled_62 ?_
              refine r_getI hx FK3_0 e13 wf_X9_70 dX9_canBeCalled_64 ?_
              obtain ⟨r17, μ16, c15, hf⟩ := f_bd2 hf
              refine r_callV hx (As := [.ref (kad k 5 8), .int (gi μ 3 (9 * v1 + 4 + (irm (v3 / v6) (gi μ 8 v1 1)).toNatClampNeg) 0)]) (rest := []) (st1 := [.int r17]) (c := 3) (i := (9 * v1 + 4 + (irm (v3 / v6) (gi μ 8 v1 1)).toNatClampNeg)) (TT := T3) (N := 4) MK_X3_makes rfl wi_X3_makes we_X3_makes wm_X9_73 ⟨Nat.le_refl _, Nat.le_refl _⟩ (cX3_makes hk e13 e14 c15) e13 (Nat.le_of_ble_eq_true rfl) rfl rfl (Nat.le_of_ble_eq_true rfl) rfl dX9_canBeCalled_67 (fun hb18 => ?_)
              refine r_ifne (tgt := 75) hx rfl dX9_canBeCalled_70 (fun q19 => ?_) (fun q19 => ?_)
              · have hf := (f_ite hf).2 q19
                refine r_aloadn hx 1 rfl rfl dX9_canBeCalled_75 ?_
                refine r_getR hx (c' := 44) (i' := 0) FK9_7 e_v0 rfl wf_X9_29 dX9_canBeCalled_76 (fun e20 => ?_)
                refine r_iload hx 6 rfl dX9_canBeCalled_79 ?_
                refine r_aloadn hx 1 rfl rfl dX9_canBeCalled_81 ?_
                refine r_getR hx (c' := 5) (i' := 8) FK9_6 e_v0 rfl wf_X9_25 dX9_canBeCalled_82 (fun e21 => ?_)
                obtain ⟨r24, μ23, c22, hf⟩ := f_bd2 hf
                refine r_callV hx (As := []) (rest := [.int v7, .ref (kad k 44 0)]) (st1 := [.int r24, .int v7, .ref (kad k 44 0)]) (c := 5) (i := 8) (TT := T5) (N := 4) MK_X5_ends rfl wi_X5_ends we_X5_ends wm_X9_77 ⟨Nat.le_refl _, Nat.le_refl _⟩ (cX5_ends hk e21 c22) e21 (Nat.le_of_ble_eq_true rfl) rfl rfl (Nat.le_of_ble_eq_true rfl) rfl dX9_canBeCalled_85 (fun hb25 => ?_)
                obtain ⟨b26, hf⟩ := f_chk hf
                refine r_iast hx (by decide) rfl e20 b26 rfl dX9_canBeCalled_88 ?_
                refine r_iload hx 5 rfl dX9_canBeCalled_89 ?_
                refine r_aloadn hx 2 rfl rfl dX9_canBeCalled_91 ?_
                refine r_getI hx FK8_1 e_v1 wf_X9_45 dX9_canBeCalled_92 ?_
                obtain ⟨q27, hf⟩ := f_nz hf
                refine r_idiv hx q27 dX9_canBeCalled_95 ?_
                refine r_istore (lv' := [(6, .int (v6 / (gi (si μ23 44 0 v7.toNatClampNeg r24) 8 v1 1))), (8, .ref (kad k 3 (9 * v1 + 4 + (irm (v3 / v6) (gi μ 8 v1 1)).toNatClampNeg))), (0, .ref (kad k 9 0)), (1, .ref (kad k 8 v1)), (3, .int v3), (5, .int v5), (7, .int v7)]) hx (Nat.le_of_ble_eq_true rfl) rfl dX9_canBeCalled_96 ?_
                refine r_iinc (lv' := [(7, .int (v7 + 1)), (6, .int (v6 / (gi (si μ23 44 0 v7.toNatClampNeg r24) 8 v1 1))), (8, .ref (kad k 3 (9 * v1 + 4 + (irm (v3 / v6) (gi μ 8 v1 1)).toNatClampNeg))), (0, .ref (kad k 9 0)), (1, .ref (kad k 8 v1)), (3, .int v3), (5, .int v5)]) hx 6 rfl (congrArg (fun y => v7 + y) ci_1) (Nat.le_of_ble_eq_true rfl) rfl dX9_canBeCalled_98 ?_
                refine r_goto (tgt := 15) hx rfl dX9_canBeCalled_101 ?_
                refine r_sub [3, 4, 5, 6, 1, 0] rfl ?_
                exact ih v1 v3 v5 (v6 / (gi (si μ23 44 0 v7.toNatClampNeg r24) 8 v1 1)) (v7 + 1) (si μ23 44 0 v7.toNatClampNeg r24) e_v0 e_v1 hf
              · have hf := (f_ite hf).1 q19
                refine r_iconst hx ci_0 dX9_canBeCalled_73 ?_
                exact r_zret hx hf rfl dX9_canBeCalled_74
  unfold fX9_canBeCalled at hf
  refine r_iload hx 4 rfl dX9_canBeCalled_0 ?_
  refine r_istore (lv' := [(6, .int a4), (0, .ref (kad k 9 0)), (1, .ref (kad k 8 a1)), (2, .ref (kad k 5 a2)), (3, .int a3), (4, .int a4), (5, .int a5)]) hx (Nat.le_of_ble_eq_true rfl) rfl dX9_canBeCalled_2 ?_
  refine r_aloadn hx 1 rfl rfl dX9_canBeCalled_4 ?_
  refine r_getR hx (c' := 5) (i' := 8) FK9_6 e_this rfl wf_X9_25 dX9_canBeCalled_5 (fun e1 => ?_)
  refine r_aloadn hx 3 rfl rfl dX9_canBeCalled_8 ?_
  obtain ⟨μ3, c2, hf⟩ := f_bd1 hf
  refine r_callV hx (As := [.ref (kad k 5 a2)]) (rest := []) (st1 := []) (c := 5) (i := 8) (TT := T5) (N := 4) MK_X5_takeTangle rfl wi_X5_takeTangle we_X5_takeTangle wm_X9_62 ⟨Nat.le_refl _, Nat.le_refl _⟩ (cX5_takeTangle hk e1 e_a2 c2) e1 (Nat.le_of_ble_eq_true rfl) rfl rfl (Nat.le_of_ble_eq_true rfl) rfl dX9_canBeCalled_9 (fun hb4 => ?_)
  refine r_iconst hx ci_0 dX9_canBeCalled_12 ?_
  refine r_istore (lv' := [(7, .int 0), (6, .int a4), (0, .ref (kad k 9 0)), (1, .ref (kad k 8 a1)), (2, .ref (kad k 5 a2)), (3, .int a3), (4, .int a4), (5, .int a5)]) hx (Nat.le_of_ble_eq_true rfl) rfl dX9_canBeCalled_13 ?_
  refine r_sub [2, 3, 5, 7, 1, 0] rfl ?_
  exact L15 F a1 a3 a5 a4 0 μ3 e_this e_a1 hf
theorem dX9_fits_0 : decode bX9_fits 0 = .ok (.iconst 0, 1) := by decide +kernel
theorem dX9_fits_1 : decode bX9_fits 1 = .ok (.istore_n 3, 1) := by decide +kernel
theorem dX9_fits_2 : decode bX9_fits 2 = .ok (.iload_n 3, 1) := by decide +kernel
theorem dX9_fits_3 : decode bX9_fits 3 = .ok (.iload_n 1, 1) := by decide +kernel
theorem dX9_fits_4 : decode bX9_fits 4 = .ok (.if_icmp .ge 65, 3) := by decide +kernel
theorem dX9_fits_7 : decode bX9_fits 7 = .ok (.iload_n 3, 1) := by decide +kernel
theorem dX9_fits_8 : decode bX9_fits 8 = .ok (.aload_n 0, 1) := by decide +kernel
theorem dX9_fits_9 : decode bX9_fits 9 = .ok (.getfield 35, 3) := by decide +kernel
theorem dX9_fits_12 : decode bX9_fits 12 = .ok (.if_icmp .ge 57, 3) := by decide +kernel
theorem dX9_fits_15 : decode bX9_fits 15 = .ok (.aload_n 0, 1) := by decide +kernel
theorem dX9_fits_16 : decode bX9_fits 16 = .ok (.getfield 11, 3) := by decide +kernel
theorem dX9_fits_19 : decode bX9_fits 19 = .ok (.iload_n 3, 1) := by decide +kernel
theorem dX9_fits_20 : decode bX9_fits 20 = .ok (.iaload, 1) := by decide +kernel
theorem dX9_fits_21 : decode bX9_fits 21 = .ok (.istore 4, 2) := by decide +kernel
theorem dX9_fits_23 : decode bX9_fits 23 = .ok (.iload 4, 2) := by decide +kernel
theorem dX9_fits_25 : decode bX9_fits 25 = .ok (.iload_n 2, 1) := by decide +kernel
theorem dX9_fits_26 : decode bX9_fits 26 = .ok (.if_icmp .gt 35, 3) := by decide +kernel
theorem dX9_fits_29 : decode bX9_fits 29 = .ok (.aload_n 0, 1) := by decide +kernel
theorem dX9_fits_30 : decode bX9_fits 30 = .ok (.getfield 29, 3) := by decide +kernel
theorem dX9_fits_33 : decode bX9_fits 33 = .ok (.iload 4, 2) := by decide +kernel
theorem dX9_fits_35 : decode bX9_fits 35 = .ok (.iconst 1, 1) := by decide +kernel
theorem dX9_fits_36 : decode bX9_fits 36 = .ok (.isub, 1) := by decide +kernel
theorem dX9_fits_37 : decode bX9_fits 37 = .ok (.iaload, 1) := by decide +kernel
theorem dX9_fits_38 : decode bX9_fits 38 = .ok (.aload_n 0, 1) := by decide +kernel
theorem dX9_fits_39 : decode bX9_fits 39 = .ok (.getfield 15, 3) := by decide +kernel
theorem dX9_fits_42 : decode bX9_fits 42 = .ok (.iload_n 3, 1) := by decide +kernel
theorem dX9_fits_43 : decode bX9_fits 43 = .ok (.iaload, 1) := by decide +kernel
theorem dX9_fits_44 : decode bX9_fits 44 = .ok (.if_icmp .ne 7, 3) := by decide +kernel
theorem dX9_fits_47 : decode bX9_fits 47 = .ok (.iconst 1, 1) := by decide +kernel
theorem dX9_fits_48 : decode bX9_fits 48 = .ok (.goto 4, 3) := by decide +kernel
theorem dX9_fits_51 : decode bX9_fits 51 = .ok (.iconst 0, 1) := by decide +kernel
theorem dX9_fits_52 : decode bX9_fits 52 = .ok (.aload_n 0, 1) := by decide +kernel
theorem dX9_fits_53 : decode bX9_fits 53 = .ok (.getfield 18, 3) := by decide +kernel
theorem dX9_fits_56 : decode bX9_fits 56 = .ok (.iload_n 3, 1) := by decide +kernel
theorem dX9_fits_57 : decode bX9_fits 57 = .ok (.baload, 1) := by decide +kernel
theorem dX9_fits_58 : decode bX9_fits 58 = .ok (.if_icmp .eq 5, 3) := by decide +kernel
theorem dX9_fits_61 : decode bX9_fits 61 = .ok (.iconst 0, 1) := by decide +kernel
theorem dX9_fits_62 : decode bX9_fits 62 = .ok (.ireturn, 1) := by decide +kernel
theorem dX9_fits_63 : decode bX9_fits 63 = .ok (.iinc 3 1, 3) := by decide +kernel
theorem dX9_fits_66 : decode bX9_fits 66 = .ok (.goto (-64), 3) := by decide +kernel
theorem dX9_fits_69 : decode bX9_fits 69 = .ok (.iconst 1, 1) := by decide +kernel
theorem dX9_fits_70 : decode bX9_fits 70 = .ok (.ireturn, 1) := by decide +kernel
set_option maxRecDepth 20000 in
set_option maxHeartbeats 4000000 in
theorem cX9_fits {l : Launch} {k : Kx} {F : Nat} {a1 : Int32} {a2 : Int32} {μ μ' : Mm} {r : Int32} (hk : kok k) (e_this : kex k 9 0) (hf : fX9_fits F a1 a2 μ = some (r, μ')) : MM l k 0 yX9_fits bX9_fits 5 (some .boolean) [.ref (kad k 9 0), .int a1, .int a2] μ (some (.int r)) μ' := by
  refine MM.of (lv := [(0, .ref (kad k 9 0)), (1, .int a1), (2, .int a2)]) (plainFor_of_name (by decide)) hk (Nat.le_of_ble_eq_true rfl) rfl (fun z hl hx => ?_)
  subst hl
  have hx : Ok z k bX9_fits 5 "RopeDance$Told" (some .boolean) 0 (0, 0) := hx
  have L52 : ∀ (K2 : Int32 → Int32 → Int32 → Mm → Option (Int32 × Mm)) (HK2 : ∀ (v1 : Int32) (v2 : Int32) (v3 : Int32) (μ : Mm) (e_v0 : kex k 9 0), K2 v1 v2 v3 μ = some (r, μ') → Gw z k 5 (k, (0, 0), (some .boolean), (some (.int r)), μ') (0, 0) 2 μ [(0, .ref (kad k 9 0)), (1, .int v1), (2, .int v2), (3, .int v3)] []) (v1 : Int32) (v2 : Int32) (v3 : Int32) (s0 : Int32) (μ : Mm) (e_v0 : kex k 9 0), fX9_fits_L52 F K2 v1 v2 v3 s0 μ = some (r, μ') → Gw z k 5 (k, (0, 0), (some .boolean), (some (.int r)), μ') (0, 0) 52 μ [(0, .ref (kad k 9 0)), (1, .int v1), (2, .int v2), (3, .int v3)] [.int s0] := by
    intro K2 HK2 v1 v2 v3 s0 μ e_v0 hf
    unfold fX9_fits_L52 at hf
    refine r_aloadn hx 0 rfl rfl dX9_fits_52 ?_
    refine r_getR hx (c' := 43) (i' := 0) FK9_5 e_v0 rfl wf_X9_18 dX9_fits_53 (fun e10 => ?_)
    refine r_iloadn hx 3 rfl rfl dX9_fits_56 ?_
    obtain ⟨b11, hf⟩ := f_chk hf
    refine r_zald hx (by decide) rfl e10 b11 rfl dX9_fits_57 ?_
    refine r_iceq (tgt := 63) hx rfl dX9_fits_58 (fun q12 => ?_) (fun q12 => ?_)
    · have hf := (f_ite hf).1 q12
      refine r_iinc (lv' := [(3, .int (v3 + 1)), (0, .ref (kad k 9 0)), (1, .int v1), (2, .int v2)]) hx 3 rfl (congrArg (fun y => v3 + y) ci_1) (Nat.le_of_ble_eq_true rfl) rfl dX9_fits_63 ?_
      refine r_goto (tgt := 2) hx rfl dX9_fits_66 ?_
      refine r_sub [1, 2, 3, 0] rfl ?_
      exact HK2 v1 v2 (v3 + 1) μ e_v0 hf
    · have hf := (f_ite hf).2 q12
      refine r_iconst hx ci_0 dX9_fits_61 ?_
      exact r_zret hx hf rfl dX9_fits_62
  have L2 : ∀ (n : Nat) (v1 : Int32) (v2 : Int32) (v3 : Int32) (μ : Mm) (e_v0 : kex k 9 0), fX9_fits_L2 F n v1 v2 v3 μ = some (r, μ') → Gw z k 5 (k, (0, 0), (some .boolean), (some (.int r)), μ') (0, 0) 2 μ [(0, .ref (kad k 9 0)), (1, .int v1), (2, .int v2), (3, .int v3)] [] := by
    intro  n
    induction n with
    | zero =>
      intro v1 v2 v3 μ e_v0 hf
      exact f_no (show (none : Option (Int32 × Mm)) = _ from hf)
    | succ n ih =>
      intro v1 v2 v3 μ e_v0 hf
      rw [fX9_fits_L2] at hf
      refine r_iloadn hx 3 rfl rfl dX9_fits_2 ?_
      refine r_iloadn hx 1 rfl rfl dX9_fits_3 ?_
      refine r_icge (tgt := 69) hx rfl dX9_fits_4 (fun q1 => ?_) (fun q1 => ?_)
      · have hf := (f_ite hf).1 q1
        refine r_iconst hx ci_1 dX9_fits_69 ?_
        exact r_zret hx hf rfl dX9_fits_70
      · have hf := (f_ite hf).2 q1
        refine r_iloadn hx 3 rfl rfl dX9_fits_7 ?_
        refine r_aloadn hx 0 rfl rfl dX9_fits_8 ?_
        refine r_getI hx FK9_0 e_v0 wf_X9_35 dX9_fits_9 ?_
        refine r_icge (tgt := 69) hx rfl dX9_fits_12 (fun q2 => ?_) (fun q2 => ?_)
        · have hf := (f_ite hf).1 q2
          refine r_iconst hx ci_1 dX9_fits_69 ?_
          exact r_zret hx hf rfl dX9_fits_70
        · have hf := (f_ite hf).2 q2
          refine r_aloadn hx 0 rfl rfl dX9_fits_15 ?_
          refine r_getR hx (c' := 41) (i' := 0) FK9_3 e_v0 rfl wf_X9_11 dX9_fits_16 (fun e3 => ?_)
          refine r_iloadn hx 3 rfl rfl dX9_fits_19 ?_
          obtain ⟨b4, hf⟩ := f_chk hf
          refine r_iald hx (by decide) rfl e3 b4 rfl dX9_fits_20 ?_
          refine r_istore (lv' := [(4, .int (gi μ 41 0 v3.toNatClampNeg)), (0, .ref (kad k 9 0)), (1, .int v1), (2, .int v2), (3, .int v3)]) hx (Nat.le_of_ble_eq_true rfl) rfl dX9_fits_21 ?_
          refine r_iload hx 0 rfl dX9_fits_23 ?_
          refine r_iloadn hx 3 rfl rfl dX9_fits_25 ?_
          refine r_icgt (tgt := 61) hx rfl dX9_fits_26 (fun q5 => ?_) (fun q5 => ?_)
          · have hf := (f_ite hf).1 q5
            refine r_iconst hx ci_0 dX9_fits_61 ?_
            exact r_zret hx hf rfl dX9_fits_62
          · have hf := (f_ite hf).2 q5
            refine r_aloadn hx 1 rfl rfl dX9_fits_29 ?_
            refine r_getR hx (c' := 44) (i' := 0) FK9_7 e_v0 rfl wf_X9_29 dX9_fits_30 (fun e6 => ?_)
            refine r_iload hx 0 rfl dX9_fits_33 ?_
            refine r_iconst hx ci_1 dX9_fits_35 ?_
            refine r_isub hx dX9_fits_36 ?_
            obtain ⟨b7, hf⟩ := f_chk hf
            refine r_iald hx (by decide) rfl e6 b7 rfl dX9_fits_37 ?_
            refine r_aloadn hx 1 rfl rfl dX9_fits_38 ?_
            refine r_getR hx (c' := 42) (i' := 0) FK9_4 e_v0 rfl wf_X9_15 dX9_fits_39 (fun e8 => ?_)
            refine r_iloadn hx 4 rfl rfl dX9_fits_42 ?_
            refine r_iald hx (by decide) rfl e8 b4 rfl dX9_fits_43 ?_
            refine r_icne (tgt := 51) hx rfl dX9_fits_44 (fun q9 => ?_) (fun q9 => ?_)
            · have hf := (f_ite hf).2 q9
              refine r_iconst hx ci_0 dX9_fits_51 ?_
              refine r_sub [1, 2, 3, 4] rfl ?_
              exact L52 _ ih  v1 v2 v3 0 μ e_v0 hf
            · have hf := (f_ite hf).1 q9
              refine r_iconst hx ci_1 dX9_fits_47 ?_
              refine r_goto (tgt := 52) hx rfl dX9_fits_48 ?_
              refine r_sub [1, 2, 3, 4] rfl ?_
              exact L52 _ ih  v1 v2 v3 1 μ e_v0 hf
  unfold fX9_fits at hf
  refine r_iconst hx ci_0 dX9_fits_0 ?_
  refine r_istoren (lv' := [(3, .int 0), (0, .ref (kad k 9 0)), (1, .int a1), (2, .int a2)]) hx rfl (Nat.le_of_ble_eq_true rfl) rfl dX9_fits_1 ?_
  refine r_sub [1, 2, 3, 0] rfl ?_
  exact L2 F a1 a2 0 μ e_this hf
theorem dX9_addFitting_0 : decode bX9_addFitting 0 = .ok (.aload_n 0, 1) := by decide +kernel
theorem dX9_addFitting_1 : decode bX9_addFitting 1 = .ok (.getfield 39, 3) := by decide +kernel
theorem dX9_addFitting_4 : decode bX9_addFitting 4 = .ok (.ifCond .ne 8, 3) := by decide +kernel
theorem dX9_addFitting_7 : decode bX9_addFitting 7 = .ok (.aload_n 0, 1) := by decide +kernel
theorem dX9_addFitting_8 : decode bX9_addFitting 8 = .ok (.iload_n 1, 1) := by decide +kernel
theorem dX9_addFitting_9 : decode bX9_addFitting 9 = .ok (.putfield 42, 3) := by decide +kernel
theorem dX9_addFitting_12 : decode bX9_addFitting 12 = .ok (.aload_n 0, 1) := by decide +kernel
theorem dX9_addFitting_13 : decode bX9_addFitting 13 = .ok (.dup, 1) := by decide +kernel
theorem dX9_addFitting_14 : decode bX9_addFitting 14 = .ok (.getfield 39, 3) := by decide +kernel
theorem dX9_addFitting_17 : decode bX9_addFitting 17 = .ok (.iconst 1, 1) := by decide +kernel
theorem dX9_addFitting_18 : decode bX9_addFitting 18 = .ok (.iadd, 1) := by decide +kernel
theorem dX9_addFitting_19 : decode bX9_addFitting 19 = .ok (.putfield 39, 3) := by decide +kernel
theorem dX9_addFitting_22 : decode bX9_addFitting 22 = .ok (.iconst 0, 1) := by decide +kernel
theorem dX9_addFitting_23 : decode bX9_addFitting 23 = .ok (.istore_n 3, 1) := by decide +kernel
theorem dX9_addFitting_24 : decode bX9_addFitting 24 = .ok (.iload_n 3, 1) := by decide +kernel
theorem dX9_addFitting_25 : decode bX9_addFitting 25 = .ok (.iload_n 2, 1) := by decide +kernel
theorem dX9_addFitting_26 : decode bX9_addFitting 26 = .ok (.if_icmp .ge 33, 3) := by decide +kernel
theorem dX9_addFitting_29 : decode bX9_addFitting 29 = .ok (.iload_n 3, 1) := by decide +kernel
theorem dX9_addFitting_30 : decode bX9_addFitting 30 = .ok (.iconst 4, 1) := by decide +kernel
theorem dX9_addFitting_31 : decode bX9_addFitting 31 = .ok (.if_icmp .ge 28, 3) := by decide +kernel
theorem dX9_addFitting_34 : decode bX9_addFitting 34 = .ok (.aload_n 0, 1) := by decide +kernel
theorem dX9_addFitting_35 : decode bX9_addFitting 35 = .ok (.getfield 32, 3) := by decide +kernel
theorem dX9_addFitting_38 : decode bX9_addFitting 38 = .ok (.iconst 3, 1) := by decide +kernel
theorem dX9_addFitting_39 : decode bX9_addFitting 39 = .ok (.iload_n 3, 1) := by decide +kernel
theorem dX9_addFitting_40 : decode bX9_addFitting 40 = .ok (.imul, 1) := by decide +kernel
theorem dX9_addFitting_41 : decode bX9_addFitting 41 = .ok (.aload_n 0, 1) := by decide +kernel
theorem dX9_addFitting_42 : decode bX9_addFitting 42 = .ok (.getfield 29, 3) := by decide +kernel
theorem dX9_addFitting_45 : decode bX9_addFitting 45 = .ok (.iload_n 3, 1) := by decide +kernel
theorem dX9_addFitting_46 : decode bX9_addFitting 46 = .ok (.iaload, 1) := by decide +kernel
theorem dX9_addFitting_47 : decode bX9_addFitting 47 = .ok (.iadd, 1) := by decide +kernel
theorem dX9_addFitting_48 : decode bX9_addFitting 48 = .ok (.dup2, 1) := by decide +kernel
theorem dX9_addFitting_49 : decode bX9_addFitting 49 = .ok (.iaload, 1) := by decide +kernel
theorem dX9_addFitting_50 : decode bX9_addFitting 50 = .ok (.iconst 1, 1) := by decide +kernel
theorem dX9_addFitting_51 : decode bX9_addFitting 51 = .ok (.iadd, 1) := by decide +kernel
theorem dX9_addFitting_52 : decode bX9_addFitting 52 = .ok (.iastore, 1) := by decide +kernel
theorem dX9_addFitting_53 : decode bX9_addFitting 53 = .ok (.iinc 3 1, 3) := by decide +kernel
theorem dX9_addFitting_56 : decode bX9_addFitting 56 = .ok (.goto (-32), 3) := by decide +kernel
theorem dX9_addFitting_59 : decode bX9_addFitting 59 = .ok (.return_, 1) := by decide +kernel
set_option maxRecDepth 20000 in
set_option maxHeartbeats 4000000 in
theorem cX9_addFitting {l : Launch} {k : Kx} {F : Nat} {a1 : Int32} {a2 : Int32} {μ μ' : Mm} (hk : kok k) (e_this : kex k 9 0) (hf : fX9_addFitting F a1 a2 μ = some μ') : MM l k 0 yX9_addFitting bX9_addFitting 4 none [.ref (kad k 9 0), .int a1, .int a2] μ none μ' := by
  refine MM.of (lv := [(0, .ref (kad k 9 0)), (1, .int a1), (2, .int a2)]) (plainFor_of_name (by decide)) hk (Nat.le_of_ble_eq_true rfl) rfl (fun z hl hx => ?_)
  subst hl
  have hx : Ok z k bX9_addFitting 4 "RopeDance$Told" none 0 (0, 0) := hx
  have L24 : ∀ (n : Nat) (v2 : Int32) (v3 : Int32) (μ : Mm) (e_v0 : kex k 9 0), fX9_addFitting_L24 F n v2 v3 μ = some μ' → Gw z k 4 (k, (0, 0), none, none, μ') (0, 0) 24 μ [(0, .ref (kad k 9 0)), (2, .int v2), (3, .int v3)] [] := by
    intro  n
    induction n with
    | zero =>
      intro v2 v3 μ e_v0 hf
      exact f_no (show (none : Option (Mm)) = _ from hf)
    | succ n ih =>
      intro v2 v3 μ e_v0 hf
      rw [fX9_addFitting_L24] at hf
      refine r_iloadn hx 2 rfl rfl dX9_addFitting_24 ?_
      refine r_iloadn hx 1 rfl rfl dX9_addFitting_25 ?_
      refine r_icge (tgt := 59) hx rfl dX9_addFitting_26 (fun q2 => ?_) (fun q2 => ?_)
      · have hf := (f_ite hf).1 q2
        exact r_vret hx hf dX9_addFitting_59
      · have hf := (f_ite hf).2 q2
        refine r_iloadn hx 2 rfl rfl dX9_addFitting_29 ?_
        refine r_iconst hx ci_4 dX9_addFitting_30 ?_
        refine r_icge (tgt := 59) hx rfl dX9_addFitting_31 (fun q3 => ?_) (fun q3 => ?_)
        · have hf := (f_ite hf).1 q3
          exact r_vret hx hf dX9_addFitting_59
        · have hf := (f_ite hf).2 q3
          refine r_aloadn hx 0 rfl rfl dX9_addFitting_34 ?_
          refine r_getR hx (c' := 45) (i' := 0) FK9_8 e_v0 rfl wf_X9_32 dX9_addFitting_35 (fun e4 => ?_)
          refine r_iconst hx ci_3 dX9_addFitting_38 ?_
          refine r_iloadn hx 2 rfl rfl dX9_addFitting_39 ?_
          refine r_imul hx dX9_addFitting_40 ?_
          refine r_aloadn hx 0 rfl rfl dX9_addFitting_41 ?_
          refine r_getR hx (c' := 44) (i' := 0) FK9_7 e_v0 rfl wf_X9_29 dX9_addFitting_42 (fun e5 => ?_)
          refine r_iloadn hx 2 rfl rfl dX9_addFitting_45 ?_
          obtain ⟨b6, hf⟩ := f_chk hf
          refine r_iald hx (by decide) rfl e5 b6 rfl dX9_addFitting_46 ?_
          refine r_iadd hx dX9_addFitting_47 ?_
          refine r_dup2 hx rfl rfl dX9_addFitting_48 ?_
          obtain ⟨b7, hf⟩ := f_chk hf
          refine r_iald hx (by decide) rfl e4 b7 rfl dX9_addFitting_49 ?_
          refine r_iconst hx ci_1 dX9_addFitting_50 ?_
          refine r_iadd hx dX9_addFitting_51 ?_
          refine r_iast hx (by decide) rfl e4 b7 rfl dX9_addFitting_52 ?_
          refine r_iinc (lv' := [(3, .int (v3 + 1)), (0, .ref (kad k 9 0)), (2, .int v2)]) hx 2 rfl (congrArg (fun y => v3 + y) ci_1) (Nat.le_of_ble_eq_true rfl) rfl dX9_addFitting_53 ?_
          refine r_goto (tgt := 24) hx rfl dX9_addFitting_56 ?_
          refine r_sub [1, 2, 0] rfl ?_
          exact ih v2 (v3 + 1) (si μ 45 0 ((3 * v3) + (gi μ 44 0 v3.toNatClampNeg)).toNatClampNeg ((gi μ 45 0 ((3 * v3) + (gi μ 44 0 v3.toNatClampNeg)).toNatClampNeg) + 1)) e_v0 hf
  have L12 : ∀ (v2 : Int32) (μ : Mm) (e_v0 : kex k 9 0), fX9_addFitting_L12 F v2 μ = some μ' → Gw z k 4 (k, (0, 0), none, none, μ') (0, 0) 12 μ [(0, .ref (kad k 9 0)), (2, .int v2)] [] := by
    intro  v2 μ e_v0 hf
    unfold fX9_addFitting_L12 at hf
    refine r_aloadn hx 0 rfl rfl dX9_addFitting_12 ?_
    refine r_dup hx rfl dX9_addFitting_13 ?_
    refine r_getI hx FK9_1 e_v0 wf_X9_39 dX9_addFitting_14 ?_
    refine r_iconst hx ci_1 dX9_addFitting_17 ?_
    refine r_iadd hx dX9_addFitting_18 ?_
    refine r_putI (ty := .int) hx FK9_1 (fun T N h => by cases h; rfl) e_v0 wf_X9_39 (by decide +kernel) rfl rfl dX9_addFitting_19 ?_
    refine r_iconst hx ci_0 dX9_addFitting_22 ?_
    refine r_istoren (lv' := [(3, .int 0), (0, .ref (kad k 9 0)), (2, .int v2)]) hx rfl (Nat.le_of_ble_eq_true rfl) rfl dX9_addFitting_23 ?_
    refine r_sub [1, 2, 0] rfl ?_
    exact L24 F v2 0 (si μ 9 0 1 ((gi μ 9 0 1) + 1)) e_v0 hf
  unfold fX9_addFitting at hf
  refine r_aloadn hx 0 rfl rfl dX9_addFitting_0 ?_
  refine r_getI hx FK9_1 e_this wf_X9_39 dX9_addFitting_1 ?_
  refine r_ifne (tgt := 12) hx rfl dX9_addFitting_4 (fun q1 => ?_) (fun q1 => ?_)
  · have hf := (f_ite hf).2 q1
    refine r_sub [0, 2] rfl ?_
    exact L12  a2 μ e_this hf
  · have hf := (f_ite hf).1 q1
    refine r_aloadn hx 0 rfl rfl dX9_addFitting_7 ?_
    refine r_iloadn hx 1 rfl rfl dX9_addFitting_8 ?_
    refine r_putI (ty := .int) hx FK9_2 (fun T N h => by cases h; rfl) e_this wf_X9_42 (by decide +kernel) rfl rfl dX9_addFitting_9 ?_
    refine r_sub [0, 2] rfl ?_
    exact L12  a2 (si μ 9 0 2 a1) e_this hf
theorem dX9_hear_0 : decode bX9_hear 0 = .ok (.aload_n 0, 1) := by decide +kernel
theorem dX9_hear_1 : decode bX9_hear 1 = .ok (.iconst 0, 1) := by decide +kernel
theorem dX9_hear_2 : decode bX9_hear 2 = .ok (.putfield 39, 3) := by decide +kernel
theorem dX9_hear_5 : decode bX9_hear 5 = .ok (.aload_n 0, 1) := by decide +kernel
theorem dX9_hear_6 : decode bX9_hear 6 = .ok (.bipush (-2), 2) := by decide +kernel
theorem dX9_hear_8 : decode bX9_hear 8 = .ok (.putfield 42, 3) := by decide +kernel
theorem dX9_hear_11 : decode bX9_hear 11 = .ok (.iconst 0, 1) := by decide +kernel
theorem dX9_hear_12 : decode bX9_hear 12 = .ok (.istore 5, 2) := by decide +kernel
theorem dX9_hear_14 : decode bX9_hear 14 = .ok (.iload 5, 2) := by decide +kernel
theorem dX9_hear_16 : decode bX9_hear 16 = .ok (.aload_n 0, 1) := by decide +kernel
theorem dX9_hear_17 : decode bX9_hear 17 = .ok (.getfield 32, 3) := by decide +kernel
theorem dX9_hear_20 : decode bX9_hear 20 = .ok (.arraylength, 1) := by decide +kernel
theorem dX9_hear_21 : decode bX9_hear 21 = .ok (.if_icmp .ge 17, 3) := by decide +kernel
theorem dX9_hear_24 : decode bX9_hear 24 = .ok (.aload_n 0, 1) := by decide +kernel
theorem dX9_hear_25 : decode bX9_hear 25 = .ok (.getfield 32, 3) := by decide +kernel
theorem dX9_hear_28 : decode bX9_hear 28 = .ok (.iload 5, 2) := by decide +kernel
theorem dX9_hear_30 : decode bX9_hear 30 = .ok (.iconst 0, 1) := by decide +kernel
theorem dX9_hear_31 : decode bX9_hear 31 = .ok (.iastore, 1) := by decide +kernel
theorem dX9_hear_32 : decode bX9_hear 32 = .ok (.iinc 5 1, 3) := by decide +kernel
theorem dX9_hear_35 : decode bX9_hear 35 = .ok (.goto (-21), 3) := by decide +kernel
theorem dX9_hear_38 : decode bX9_hear 38 = .ok (.iconst 1, 1) := by decide +kernel
theorem dX9_hear_39 : decode bX9_hear 39 = .ok (.istore 5, 2) := by decide +kernel
theorem dX9_hear_41 : decode bX9_hear 41 = .ok (.iconst 1, 1) := by decide +kernel
theorem dX9_hear_42 : decode bX9_hear 42 = .ok (.istore 6, 2) := by decide +kernel
theorem dX9_hear_44 : decode bX9_hear 44 = .ok (.iload 6, 2) := by decide +kernel
theorem dX9_hear_46 : decode bX9_hear 46 = .ok (.iload 4, 2) := by decide +kernel
theorem dX9_hear_48 : decode bX9_hear 48 = .ok (.if_icmp .ge 18, 3) := by decide +kernel
theorem dX9_hear_51 : decode bX9_hear 51 = .ok (.iload 5, 2) := by decide +kernel
theorem dX9_hear_53 : decode bX9_hear 53 = .ok (.aload_n 1, 1) := by decide +kernel
theorem dX9_hear_54 : decode bX9_hear 54 = .ok (.getfield 45, 3) := by decide +kernel
theorem dX9_hear_57 : decode bX9_hear 57 = .ok (.imul, 1) := by decide +kernel
theorem dX9_hear_58 : decode bX9_hear 58 = .ok (.istore 5, 2) := by decide +kernel
theorem dX9_hear_60 : decode bX9_hear 60 = .ok (.iinc 6 1, 3) := by decide +kernel
theorem dX9_hear_63 : decode bX9_hear 63 = .ok (.goto (-19), 3) := by decide +kernel
theorem dX9_hear_66 : decode bX9_hear 66 = .ok (.iconst 0, 1) := by decide +kernel
theorem dX9_hear_67 : decode bX9_hear 67 = .ok (.istore 6, 2) := by decide +kernel
theorem dX9_hear_69 : decode bX9_hear 69 = .ok (.iload 6, 2) := by decide +kernel
theorem dX9_hear_71 : decode bX9_hear 71 = .ok (.iload 5, 2) := by decide +kernel
theorem dX9_hear_73 : decode bX9_hear 73 = .ok (.aload_n 1, 1) := by decide +kernel
theorem dX9_hear_74 : decode bX9_hear 74 = .ok (.getfield 45, 3) := by decide +kernel
theorem dX9_hear_77 : decode bX9_hear 77 = .ok (.imul, 1) := by decide +kernel
theorem dX9_hear_78 : decode bX9_hear 78 = .ok (.if_icmp .ge 42, 3) := by decide +kernel
theorem dX9_hear_81 : decode bX9_hear 81 = .ok (.aload_n 0, 1) := by decide +kernel
theorem dX9_hear_82 : decode bX9_hear 82 = .ok (.aload_n 1, 1) := by decide +kernel
theorem dX9_hear_83 : decode bX9_hear 83 = .ok (.aload_n 2, 1) := by decide +kernel
theorem dX9_hear_84 : decode bX9_hear 84 = .ok (.iload 6, 2) := by decide +kernel
theorem dX9_hear_86 : decode bX9_hear 86 = .ok (.iload 5, 2) := by decide +kernel
theorem dX9_hear_88 : decode bX9_hear 88 = .ok (.iload 4, 2) := by decide +kernel
theorem dX9_hear_90 : decode bX9_hear 90 = .ok (.invokevirtual 50, 3) := by decide +kernel
theorem dX9_hear_93 : decode bX9_hear 93 = .ok (.ifCond .eq 21, 3) := by decide +kernel
theorem dX9_hear_96 : decode bX9_hear 96 = .ok (.aload_n 0, 1) := by decide +kernel
theorem dX9_hear_97 : decode bX9_hear 97 = .ok (.iload_n 3, 1) := by decide +kernel
theorem dX9_hear_98 : decode bX9_hear 98 = .ok (.iload 4, 2) := by decide +kernel
theorem dX9_hear_100 : decode bX9_hear 100 = .ok (.invokevirtual 54, 3) := by decide +kernel
theorem dX9_hear_103 : decode bX9_hear 103 = .ok (.ifCond .eq 11, 3) := by decide +kernel
theorem dX9_hear_106 : decode bX9_hear 106 = .ok (.aload_n 0, 1) := by decide +kernel
theorem dX9_hear_107 : decode bX9_hear 107 = .ok (.iload 6, 2) := by decide +kernel
theorem dX9_hear_109 : decode bX9_hear 109 = .ok (.iload 4, 2) := by decide +kernel
theorem dX9_hear_111 : decode bX9_hear 111 = .ok (.invokevirtual 58, 3) := by decide +kernel
theorem dX9_hear_114 : decode bX9_hear 114 = .ok (.iinc 6 1, 3) := by decide +kernel
theorem dX9_hear_117 : decode bX9_hear 117 = .ok (.goto (-48), 3) := by decide +kernel
theorem dX9_hear_120 : decode bX9_hear 120 = .ok (.return_, 1) := by decide +kernel
set_option maxRecDepth 20000 in
set_option maxHeartbeats 4000000 in
theorem cX9_hear {l : Launch} {k : Kx} {F : Nat} {a1 : Nat} {a2 : Nat} {a3 : Int32} {a4 : Int32} {μ μ' : Mm} (hk : kok k) (e_this : kex k 9 0) (e_a1 : kex k 8 a1) (e_a2 : kex k 5 a2) (hf : fX9_hear F a1 a2 a3 a4 μ = some μ') : MM l k 4 yX9_hear bX9_hear 7 none [.ref (kad k 9 0), .ref (kad k 8 a1), .ref (kad k 5 a2), .int a3, .int a4] μ none μ' := by
  refine MM.of (lv := [(0, .ref (kad k 9 0)), (1, .ref (kad k 8 a1)), (2, .ref (kad k 5 a2)), (3, .int a3), (4, .int a4)]) (plainFor_of_name (by decide)) hk (Nat.le_of_ble_eq_true rfl) rfl (fun z hl hx => ?_)
  subst hl
  have hx : Ok z k bX9_hear 7 "RopeDance$Told" none 4 (0, 0) := hx
  have L114 : ∀ (K69 : Nat → Nat → Int32 → Int32 → Int32 → Int32 → Mm → Option (Mm)) (HK69 : ∀ (v1 : Nat) (v2 : Nat) (v3 : Int32) (v4 : Int32) (v5 : Int32) (v6 : Int32) (μ : Mm) (e_v0 : kex k 9 0) (e_v1 : kex k 8 v1) (e_v2 : kex k 5 v2), K69 v1 v2 v3 v4 v5 v6 μ = some μ' → Gw z k 7 (k, (0, 0), none, none, μ') (0, 0) 69 μ [(0, .ref (kad k 9 0)), (1, .ref (kad k 8 v1)), (2, .ref (kad k 5 v2)), (3, .int v3), (4, .int v4), (5, .int v5), (6, .int v6)] []) (v1 : Nat) (v2 : Nat) (v3 : Int32) (v4 : Int32) (v5 : Int32) (v6 : Int32) (μ : Mm) (e_v0 : kex k 9 0) (e_v1 : kex k 8 v1) (e_v2 : kex k 5 v2), fX9_hear_L114 F K69 v1 v2 v3 v4 v5 v6 μ = some μ' → Gw z k 7 (k, (0, 0), none, none, μ') (0, 0) 114 μ [(0, .ref (kad k 9 0)), (1, .ref (kad k 8 v1)), (2, .ref (kad k 5 v2)), (3, .int v3), (4, .int v4), (5, .int v5), (6, .int v6)] [] := by
    intro K69 HK69 v1 v2 v3 v4 v5 v6 μ e_v0 e_v1 e_v2 hf
    unfold fX9_hear_L114 at hf
    refine r_iinc (lv' := [(6, .int (v6 + 1)), (0, .ref (kad k 9 0)), (1, .ref (kad k 8 v1)), (2, .ref (kad k 5 v2)), (3, .int v3), (4, .int v4), (5, .int v5)]) hx 6 rfl (congrArg (fun y => v6 + y) ci_1) (Nat.le_of_ble_eq_true rfl) rfl dX9_hear_114 ?_
    refine r_goto (tgt := 69) hx rfl dX9_hear_117 ?_
    refine r_sub [1, 2, 3, 4, 5, 6, 0] rfl ?_
    exact HK69 v1 v2 v3 v4 v5 (v6 + 1) μ e_v0 e_v1 e_v2 hf
  have L69 : ∀ (n : Nat) (v1 : Nat) (v2 : Nat) (v3 : Int32) (v4 : Int32) (v5 : Int32) (v6 : Int32) (μ : Mm) (e_v0 : kex k 9 0) (e_v1 : kex k 8 v1) (e_v2 : kex k 5 v2), fX9_hear_L69 F n v1 v2 v3 v4 v5 v6 μ = some μ' → Gw z k 7 (k, (0, 0), none, none, μ') (0, 0) 69 μ [(0, .ref (kad k 9 0)), (1, .ref (kad k 8 v1)), (2, .ref (kad k 5 v2)), (3, .int v3), (4, .int v4), (5, .int v5), (6, .int v6)] [] := by
    intro  n
    induction n with
    | zero =>
      intro v1 v2 v3 v4 v5 v6 μ e_v0 e_v1 e_v2 hf
      exact f_no (show (none : Option (Mm)) = _ from hf)
    | succ n ih =>
      intro v1 v2 v3 v4 v5 v6 μ e_v0 e_v1 e_v2 hf
      rw [fX9_hear_L69] at hf
      refine r_iload hx 6 rfl dX9_hear_69 ?_
      refine r_iload hx 5 rfl dX9_hear_71 ?_
      refine r_aloadn hx 1 rfl rfl dX9_hear_73 ?_
      refine r_getI hx FK8_1 e_v1 wf_X9_45 dX9_hear_74 ?_
      refine r_imul hx dX9_hear_77 ?_
      refine r_icge (tgt := 120) hx rfl dX9_hear_78 (fun q4 => ?_) (fun q4 => ?_)
      · have hf := (f_ite hf).1 q4
        exact r_vret hx hf dX9_hear_120
      · have hf := (f_ite hf).2 q4
        refine r_aloadn hx 0 rfl rfl dX9_hear_81 ?_
        refine r_aloadn hx 1 rfl rfl dX9_hear_82 ?_
        refine r_aloadn hx 2 rfl rfl dX9_hear_83 ?_
        refine r_iload hx 6 rfl dX9_hear_84 ?_
        refine r_iload hx 5 rfl dX9_hear_86 ?_
        refine r_iload hx 4 rfl dX9_hear_88 ?_
        obtain ⟨r7, μ6, c5, hf⟩ := f_bd2 hf
        refine r_callV hx (As := [.ref (kad k 8 v1), .ref (kad k 5 v2), .int v6, .int v5, .int v4]) (rest := []) (st1 := [.int r7]) (c := 9) (i := 0) (TT := T9) (N := 9) MK_X9_canBeCalled rfl wi_X9_canBeCalled we_X9_canBeCalled wm_X9_50 ⟨Nat.le_refl _, Nat.le_refl _⟩ (cX9_canBeCalled hk e_v0 e_v1 e_v2 c5) e_v0 (Nat.le_of_ble_eq_true rfl) rfl rfl (Nat.le_of_ble_eq_true rfl) rfl dX9_hear_90 (fun hb8 => ?_)
        refine r_ifeq (tgt := 114) hx rfl dX9_hear_93 (fun q9 => ?_) (fun q9 => ?_)
        · have hf := (f_ite hf).1 q9
          refine r_sub [0, 1, 2, 3, 4, 5, 6] rfl ?_
          exact L114 _ ih  v1 v2 v3 v4 v5 v6 μ6 e_v0 e_v1 e_v2 hf
        · have hf := (f_ite hf).2 q9
          refine r_aloadn hx 0 rfl rfl dX9_hear_96 ?_
          refine r_iloadn hx 3 rfl rfl dX9_hear_97 ?_
          refine r_iload hx 4 rfl dX9_hear_98 ?_
          obtain ⟨r12, μ11, c10, hf⟩ := f_bd2 hf
          refine r_callV hx (As := [.int v3, .int v4]) (rest := []) (st1 := [.int r12]) (c := 9) (i := 0) (TT := T9) (N := 9) MK_X9_fits rfl wi_X9_fits we_X9_fits wm_X9_54 ⟨Nat.le_refl _, Nat.le_refl _⟩ (cX9_fits hk e_v0 c10) e_v0 (Nat.le_of_ble_eq_true rfl) rfl rfl (Nat.le_of_ble_eq_true rfl) rfl dX9_hear_100 (fun hb13 => ?_)
          refine r_ifeq (tgt := 114) hx rfl dX9_hear_103 (fun q14 => ?_) (fun q14 => ?_)
          · have hf := (f_ite hf).1 q14
            refine r_sub [0, 1, 2, 3, 4, 5, 6] rfl ?_
            exact L114 _ ih  v1 v2 v3 v4 v5 v6 μ11 e_v0 e_v1 e_v2 hf
          · have hf := (f_ite hf).2 q14
            refine r_aloadn hx 0 rfl rfl dX9_hear_106 ?_
            refine r_iload hx 6 rfl dX9_hear_107 ?_
            refine r_iload hx 4 rfl dX9_hear_109 ?_
            obtain ⟨μ16, c15, hf⟩ := f_bd1 hf
            refine r_callV hx (As := [.int v6, .int v4]) (rest := []) (st1 := []) (c := 9) (i := 0) (TT := T9) (N := 9) MK_X9_addFitting rfl wi_X9_addFitting we_X9_addFitting wm_X9_58 ⟨Nat.le_refl _, Nat.le_refl _⟩ (cX9_addFitting hk e_v0 c15) e_v0 (Nat.le_of_ble_eq_true rfl) rfl rfl (Nat.le_of_ble_eq_true rfl) rfl dX9_hear_111 (fun hb17 => ?_)
            refine r_sub [0, 1, 2, 3, 4, 5, 6] rfl ?_
            exact L114 _ ih  v1 v2 v3 v4 v5 v6 μ16 e_v0 e_v1 e_v2 hf
  have L44 : ∀ (n : Nat) (v1 : Nat) (v2 : Nat) (v3 : Int32) (v4 : Int32) (v5 : Int32) (v6 : Int32) (μ : Mm) (e_v0 : kex k 9 0) (e_v1 : kex k 8 v1) (e_v2 : kex k 5 v2), fX9_hear_L44 F n v1 v2 v3 v4 v5 v6 μ = some μ' → Gw z k 7 (k, (0, 0), none, none, μ') (0, 0) 44 μ [(0, .ref (kad k 9 0)), (1, .ref (kad k 8 v1)), (2, .ref (kad k 5 v2)), (3, .int v3), (4, .int v4), (5, .int v5), (6, .int v6)] [] := by
    intro  n
    induction n with
    | zero =>
      intro v1 v2 v3 v4 v5 v6 μ e_v0 e_v1 e_v2 hf
      exact f_no (show (none : Option (Mm)) = _ from hf)
    | succ n ih =>
      intro v1 v2 v3 v4 v5 v6 μ e_v0 e_v1 e_v2 hf
      rw [fX9_hear_L44] at hf
      refine r_iload hx 6 rfl dX9_hear_44 ?_
      refine r_iload hx 4 rfl dX9_hear_46 ?_
      refine r_icge (tgt := 66) hx rfl dX9_hear_48 (fun q3 => ?_) (fun q3 => ?_)
      · have hf := (f_ite hf).1 q3
        refine r_iconst hx ci_0 dX9_hear_66 ?_
        refine r_istore (lv' := [(6, .int 0), (0, .ref (kad k 9 0)), (1, .ref (kad k 8 v1)), (2, .ref (kad k 5 v2)), (3, .int v3), (4, .int v4), (5, .int v5)]) hx (Nat.le_of_ble_eq_true rfl) rfl dX9_hear_67 ?_
        refine r_sub [1, 2, 3, 4, 5, 6, 0] rfl ?_
        exact L69 F v1 v2 v3 v4 v5 0 μ e_v0 e_v1 e_v2 hf
      · have hf := (f_ite hf).2 q3
        refine r_iload hx 5 rfl dX9_hear_51 ?_
        refine r_aloadn hx 1 rfl rfl dX9_hear_53 ?_
        refine r_getI hx FK8_1 e_v1 wf_X9_45 dX9_hear_54 ?_
        refine r_imul hx dX9_hear_57 ?_
        refine r_istore (lv' := [(5, .int (v5 * (gi μ 8 v1 1))), (0, .ref (kad k 9 0)), (1, .ref (kad k 8 v1)), (2, .ref (kad k 5 v2)), (3, .int v3), (4, .int v4), (6, .int v6)]) hx (Nat.le_of_ble_eq_true rfl) rfl dX9_hear_58 ?_
        refine r_iinc (lv' := [(6, .int (v6 + 1)), (5, .int (v5 * (gi μ 8 v1 1))), (0, .ref (kad k 9 0)), (1, .ref (kad k 8 v1)), (2, .ref (kad k 5 v2)), (3, .int v3), (4, .int v4)]) hx 6 rfl (congrArg (fun y => v6 + y) ci_1) (Nat.le_of_ble_eq_true rfl) rfl dX9_hear_60 ?_
        refine r_goto (tgt := 44) hx rfl dX9_hear_63 ?_
        refine r_sub [2, 3, 4, 5, 6, 1, 0] rfl ?_
        exact ih v1 v2 v3 v4 (v5 * (gi μ 8 v1 1)) (v6 + 1) μ e_v0 e_v1 e_v2 hf
  have L14 : ∀ (n : Nat) (v1 : Nat) (v2 : Nat) (v3 : Int32) (v4 : Int32) (v5 : Int32) (μ : Mm) (e_v0 : kex k 9 0) (e_v1 : kex k 8 v1) (e_v2 : kex k 5 v2), fX9_hear_L14 F n v1 v2 v3 v4 v5 μ = some μ' → Gw z k 7 (k, (0, 0), none, none, μ') (0, 0) 14 μ [(0, .ref (kad k 9 0)), (1, .ref (kad k 8 v1)), (2, .ref (kad k 5 v2)), (3, .int v3), (4, .int v4), (5, .int v5)] [] := by
    intro  n
    induction n with
    | zero =>
      intro v1 v2 v3 v4 v5 μ e_v0 e_v1 e_v2 hf
      exact f_no (show (none : Option (Mm)) = _ from hf)
    | succ n ih =>
      intro v1 v2 v3 v4 v5 μ e_v0 e_v1 e_v2 hf
      rw [fX9_hear_L14] at hf
      refine r_iload hx 5 rfl dX9_hear_14 ?_
      refine r_aloadn hx 0 rfl rfl dX9_hear_16 ?_
      refine r_getR hx (c' := 45) (i' := 0) FK9_8 e_v0 rfl wf_X9_32 dX9_hear_17 (fun e1 => ?_)
      refine r_alen (v := 12) hx (by decide) (by decide) e1 (by decide) dX9_hear_20 ?_
      refine r_icge (tgt := 38) hx rfl dX9_hear_21 (fun q2 => ?_) (fun q2 => ?_)
      · have hf := (f_ite hf).1 q2
        refine r_iconst hx ci_1 dX9_hear_38 ?_
        refine r_istore (lv' := [(5, .int 1), (0, .ref (kad k 9 0)), (1, .ref (kad k 8 v1)), (2, .ref (kad k 5 v2)), (3, .int v3), (4, .int v4)]) hx (Nat.le_of_ble_eq_true rfl) rfl dX9_hear_39 ?_
        refine r_iconst hx ci_1 dX9_hear_41 ?_
        refine r_istore (lv' := [(6, .int 1), (5, .int 1), (0, .ref (kad k 9 0)), (1, .ref (kad k 8 v1)), (2, .ref (kad k 5 v2)), (3, .int v3), (4, .int v4)]) hx (Nat.le_of_ble_eq_true rfl) rfl dX9_hear_42 ?_
        refine r_sub [2, 3, 4, 5, 6, 1, 0] rfl ?_
        exact L44 F v1 v2 v3 v4 1 1 μ e_v0 e_v1 e_v2 hf
      · have hf := (f_ite hf).2 q2
        refine r_aloadn hx 0 rfl rfl dX9_hear_24 ?_
        refine r_getR hx (c' := 45) (i' := 0) FK9_8 e_v0 rfl wf_X9_32 dX9_hear_25 (fun e18 => ?_)
        refine r_iload hx 5 rfl dX9_hear_28 ?_
        refine r_iconst hx ci_0 dX9_hear_30 ?_
        obtain ⟨b19, hf⟩ := f_chk hf
        refine r_iast hx (by decide) rfl e18 b19 rfl dX9_hear_31 ?_
        refine r_iinc (lv' := [(5, .int (v5 + 1)), (0, .ref (kad k 9 0)), (1, .ref (kad k 8 v1)), (2, .ref (kad k 5 v2)), (3, .int v3), (4, .int v4)]) hx 5 rfl (congrArg (fun y => v5 + y) ci_1) (Nat.le_of_ble_eq_true rfl) rfl dX9_hear_32 ?_
        refine r_goto (tgt := 14) hx rfl dX9_hear_35 ?_
        refine r_sub [1, 2, 3, 4, 5, 0] rfl ?_
        exact ih v1 v2 v3 v4 (v5 + 1) (si μ 45 0 v5.toNatClampNeg 0) e_v0 e_v1 e_v2 hf
  unfold fX9_hear at hf
  refine r_aloadn hx 0 rfl rfl dX9_hear_0 ?_
  refine r_iconst hx ci_0 dX9_hear_1 ?_
  refine r_putI (ty := .int) hx FK9_1 (fun T N h => by cases h; rfl) e_this wf_X9_39 (by decide +kernel) rfl rfl dX9_hear_2 ?_
  refine r_aloadn hx 0 rfl rfl dX9_hear_5 ?_
  refine r_bipush hx cb_m2 dX9_hear_6 ?_
  refine r_putI (ty := .int) hx FK9_2 (fun T N h => by cases h; rfl) e_this wf_X9_42 (by decide +kernel) rfl rfl dX9_hear_8 ?_
  refine r_iconst hx ci_0 dX9_hear_11 ?_
  refine r_istore (lv' := [(5, .int 0), (0, .ref (kad k 9 0)), (1, .ref (kad k 8 a1)), (2, .ref (kad k 5 a2)), (3, .int a3), (4, .int a4)]) hx (Nat.le_of_ble_eq_true rfl) rfl dX9_hear_12 ?_
  refine r_sub [1, 2, 3, 4, 5, 0] rfl ?_
  exact L14 F a1 a2 a3 a4 0 (si (si μ 9 0 1 0) 9 0 2 (-2)) e_this e_a1 e_a2 hf
theorem dX9_whereToListen_0 : decode bX9_whereToListen 0 = .ok (.aload_n 0, 1) := by decide +kernel
theorem dX9_whereToListen_1 : decode bX9_whereToListen 1 = .ok (.getfield 39, 3) := by decide +kernel
theorem dX9_whereToListen_4 : decode bX9_whereToListen 4 = .ok (.ifCond .ne 6, 3) := by decide +kernel
theorem dX9_whereToListen_7 : decode bX9_whereToListen 7 = .ok (.bipush (-2), 2) := by decide +kernel
theorem dX9_whereToListen_9 : decode bX9_whereToListen 9 = .ok (.ireturn, 1) := by decide +kernel
theorem dX9_whereToListen_10 : decode bX9_whereToListen 10 = .ok (.iconst (-1), 1) := by decide +kernel
theorem dX9_whereToListen_11 : decode bX9_whereToListen 11 = .ok (.istore_n 2, 1) := by decide +kernel
theorem dX9_whereToListen_12 : decode bX9_whereToListen 12 = .ok (.aload_n 0, 1) := by decide +kernel
theorem dX9_whereToListen_13 : decode bX9_whereToListen 13 = .ok (.getfield 39, 3) := by decide +kernel
theorem dX9_whereToListen_16 : decode bX9_whereToListen 16 = .ok (.iconst 1, 1) := by decide +kernel
theorem dX9_whereToListen_17 : decode bX9_whereToListen 17 = .ok (.iadd, 1) := by decide +kernel
theorem dX9_whereToListen_18 : decode bX9_whereToListen 18 = .ok (.istore_n 3, 1) := by decide +kernel
theorem dX9_whereToListen_19 : decode bX9_whereToListen 19 = .ok (.iconst 0, 1) := by decide +kernel
theorem dX9_whereToListen_20 : decode bX9_whereToListen 20 = .ok (.istore 4, 2) := by decide +kernel
theorem dX9_whereToListen_22 : decode bX9_whereToListen 22 = .ok (.iload 4, 2) := by decide +kernel
theorem dX9_whereToListen_24 : decode bX9_whereToListen 24 = .ok (.iload_n 1, 1) := by decide +kernel
theorem dX9_whereToListen_25 : decode bX9_whereToListen 25 = .ok (.if_icmp .ge 68, 3) := by decide +kernel
theorem dX9_whereToListen_28 : decode bX9_whereToListen 28 = .ok (.iload 4, 2) := by decide +kernel
theorem dX9_whereToListen_30 : decode bX9_whereToListen 30 = .ok (.iconst 4, 1) := by decide +kernel
theorem dX9_whereToListen_31 : decode bX9_whereToListen 31 = .ok (.if_icmp .ge 62, 3) := by decide +kernel
theorem dX9_whereToListen_34 : decode bX9_whereToListen 34 = .ok (.aload_n 0, 1) := by decide +kernel
theorem dX9_whereToListen_35 : decode bX9_whereToListen 35 = .ok (.getfield 32, 3) := by decide +kernel
theorem dX9_whereToListen_38 : decode bX9_whereToListen 38 = .ok (.iconst 3, 1) := by decide +kernel
theorem dX9_whereToListen_39 : decode bX9_whereToListen 39 = .ok (.iload 4, 2) := by decide +kernel
theorem dX9_whereToListen_41 : decode bX9_whereToListen 41 = .ok (.imul, 1) := by decide +kernel
theorem dX9_whereToListen_42 : decode bX9_whereToListen 42 = .ok (.iaload, 1) := by decide +kernel
theorem dX9_whereToListen_43 : decode bX9_whereToListen 43 = .ok (.aload_n 0, 1) := by decide +kernel
theorem dX9_whereToListen_44 : decode bX9_whereToListen 44 = .ok (.getfield 32, 3) := by decide +kernel
theorem dX9_whereToListen_47 : decode bX9_whereToListen 47 = .ok (.iconst 3, 1) := by decide +kernel
theorem dX9_whereToListen_48 : decode bX9_whereToListen 48 = .ok (.iload 4, 2) := by decide +kernel
theorem dX9_whereToListen_50 : decode bX9_whereToListen 50 = .ok (.imul, 1) := by decide +kernel
theorem dX9_whereToListen_51 : decode bX9_whereToListen 51 = .ok (.iconst 1, 1) := by decide +kernel
theorem dX9_whereToListen_52 : decode bX9_whereToListen 52 = .ok (.iadd, 1) := by decide +kernel
theorem dX9_whereToListen_53 : decode bX9_whereToListen 53 = .ok (.iaload, 1) := by decide +kernel
theorem dX9_whereToListen_54 : decode bX9_whereToListen 54 = .ok (.aload_n 0, 1) := by decide +kernel
theorem dX9_whereToListen_55 : decode bX9_whereToListen 55 = .ok (.getfield 32, 3) := by decide +kernel
theorem dX9_whereToListen_58 : decode bX9_whereToListen 58 = .ok (.iconst 3, 1) := by decide +kernel
theorem dX9_whereToListen_59 : decode bX9_whereToListen 59 = .ok (.iload 4, 2) := by decide +kernel
theorem dX9_whereToListen_61 : decode bX9_whereToListen 61 = .ok (.imul, 1) := by decide +kernel
theorem dX9_whereToListen_62 : decode bX9_whereToListen 62 = .ok (.iconst 2, 1) := by decide +kernel
theorem dX9_whereToListen_63 : decode bX9_whereToListen 63 = .ok (.iadd, 1) := by decide +kernel
theorem dX9_whereToListen_64 : decode bX9_whereToListen 64 = .ok (.iaload, 1) := by decide +kernel
theorem dX9_whereToListen_65 : decode bX9_whereToListen 65 = .ok (.invokestatic 80, 3) := by decide +kernel
theorem dX9_whereToListen_68 : decode bX9_whereToListen 68 = .ok (.invokestatic 80, 3) := by decide +kernel
theorem dX9_whereToListen_71 : decode bX9_whereToListen 71 = .ok (.istore 5, 2) := by decide +kernel
theorem dX9_whereToListen_73 : decode bX9_whereToListen 73 = .ok (.iload 5, 2) := by decide +kernel
theorem dX9_whereToListen_75 : decode bX9_whereToListen 75 = .ok (.iload_n 3, 1) := by decide +kernel
theorem dX9_whereToListen_76 : decode bX9_whereToListen 76 = .ok (.if_icmp .ge 11, 3) := by decide +kernel
theorem dX9_whereToListen_79 : decode bX9_whereToListen 79 = .ok (.iload 5, 2) := by decide +kernel
theorem dX9_whereToListen_81 : decode bX9_whereToListen 81 = .ok (.istore_n 3, 1) := by decide +kernel
theorem dX9_whereToListen_82 : decode bX9_whereToListen 82 = .ok (.iload 4, 2) := by decide +kernel
theorem dX9_whereToListen_84 : decode bX9_whereToListen 84 = .ok (.iconst 1, 1) := by decide +kernel
theorem dX9_whereToListen_85 : decode bX9_whereToListen 85 = .ok (.iadd, 1) := by decide +kernel
theorem dX9_whereToListen_86 : decode bX9_whereToListen 86 = .ok (.istore_n 2, 1) := by decide +kernel
theorem dX9_whereToListen_87 : decode bX9_whereToListen 87 = .ok (.iinc 4 1, 3) := by decide +kernel
theorem dX9_whereToListen_90 : decode bX9_whereToListen 90 = .ok (.goto (-68), 3) := by decide +kernel
theorem dX9_whereToListen_93 : decode bX9_whereToListen 93 = .ok (.iload_n 2, 1) := by decide +kernel
theorem dX9_whereToListen_94 : decode bX9_whereToListen 94 = .ok (.ireturn, 1) := by decide +kernel
set_option maxRecDepth 20000 in
set_option maxHeartbeats 4000000 in
theorem cX9_whereToListen {l : Launch} {k : Kx} {F : Nat} {a1 : Int32} {μ μ' : Mm} {r : Int32} (hk : kok k) (e_this : kex k 9 0) (hf : fX9_whereToListen F a1 μ = some (r, μ')) : MM l k 1 yX9_whereToListen bX9_whereToListen 6 (some .int) [.ref (kad k 9 0), .int a1] μ (some (.int r)) μ' := by
  refine MM.of (lv := [(0, .ref (kad k 9 0)), (1, .int a1)]) (plainFor_of_name (by decide)) hk (Nat.le_of_ble_eq_true rfl) rfl (fun z hl hx => ?_)
  subst hl
  have hx : Ok z k bX9_whereToListen 6 "RopeDance$Told" (some .int) 1 (0, 0) := hx
  have L87 : ∀ (K22 : Int32 → Int32 → Int32 → Int32 → Mm → Option (Int32 × Mm)) (HK22 : ∀ (v1 : Int32) (v2 : Int32) (v3 : Int32) (v4 : Int32) (μ : Mm) (e_v0 : kex k 9 0), K22 v1 v2 v3 v4 μ = some (r, μ') → Gw z k 6 (k, (0, 0), (some .int), (some (.int r)), μ') (0, 0) 22 μ [(0, .ref (kad k 9 0)), (1, .int v1), (2, .int v2), (3, .int v3), (4, .int v4)] []) (v1 : Int32) (v2 : Int32) (v3 : Int32) (v4 : Int32) (μ : Mm) (e_v0 : kex k 9 0), fX9_whereToListen_L87 F K22 v1 v2 v3 v4 μ = some (r, μ') → Gw z k 6 (k, (0, 0), (some .int), (some (.int r)), μ') (0, 0) 87 μ [(0, .ref (kad k 9 0)), (1, .int v1), (2, .int v2), (3, .int v3), (4, .int v4)] [] := by
    intro K22 HK22 v1 v2 v3 v4 μ e_v0 hf
    unfold fX9_whereToListen_L87 at hf
    refine r_iinc (lv' := [(4, .int (v4 + 1)), (0, .ref (kad k 9 0)), (1, .int v1), (2, .int v2), (3, .int v3)]) hx 4 rfl (congrArg (fun y => v4 + y) ci_1) (Nat.le_of_ble_eq_true rfl) rfl dX9_whereToListen_87 ?_
    refine r_goto (tgt := 22) hx rfl dX9_whereToListen_90 ?_
    refine r_sub [1, 2, 3, 4, 0] rfl ?_
    exact HK22 v1 v2 v3 (v4 + 1) μ e_v0 hf
  have L22 : ∀ (n : Nat) (v1 : Int32) (v2 : Int32) (v3 : Int32) (v4 : Int32) (μ : Mm) (e_v0 : kex k 9 0), fX9_whereToListen_L22 F n v1 v2 v3 v4 μ = some (r, μ') → Gw z k 6 (k, (0, 0), (some .int), (some (.int r)), μ') (0, 0) 22 μ [(0, .ref (kad k 9 0)), (1, .int v1), (2, .int v2), (3, .int v3), (4, .int v4)] [] := by
    intro  n
    induction n with
    | zero =>
      intro v1 v2 v3 v4 μ e_v0 hf
      exact f_no (show (none : Option (Int32 × Mm)) = _ from hf)
    | succ n ih =>
      intro v1 v2 v3 v4 μ e_v0 hf
      rw [fX9_whereToListen_L22] at hf
      refine r_iload hx 4 rfl dX9_whereToListen_22 ?_
      refine r_iloadn hx 1 rfl rfl dX9_whereToListen_24 ?_
      refine r_icge (tgt := 93) hx rfl dX9_whereToListen_25 (fun q2 => ?_) (fun q2 => ?_)
      · have hf := (f_ite hf).1 q2
        refine r_iloadn hx 2 rfl rfl dX9_whereToListen_93 ?_
        exact r_iret hx hf dX9_whereToListen_94
      · have hf := (f_ite hf).2 q2
        refine r_iload hx 4 rfl dX9_whereToListen_28 ?_
        refine r_iconst hx ci_4 dX9_whereToListen_30 ?_
        refine r_icge (tgt := 93) hx rfl dX9_whereToListen_31 (fun q3 => ?_) (fun q3 => ?_)
        · have hf := (f_ite hf).1 q3
          refine r_iloadn hx 2 rfl rfl dX9_whereToListen_93 ?_
          exact r_iret hx hf dX9_whereToListen_94
        · have hf := (f_ite hf).2 q3
          refine r_aloadn hx 0 rfl rfl dX9_whereToListen_34 ?_
          refine r_getR hx (c' := 45) (i' := 0) FK9_8 e_v0 rfl wf_X9_32 dX9_whereToListen_35 (fun e4 => ?_)
          refine r_iconst hx ci_3 dX9_whereToListen_38 ?_
          refine r_iload hx 4 rfl dX9_whereToListen_39 ?_
          refine r_imul hx dX9_whereToListen_41 ?_
          obtain ⟨b5, hf⟩ := f_chk hf
          refine r_iald hx (by decide) rfl e4 b5 rfl dX9_whereToListen_42 ?_
          refine r_aloadn hx 0 rfl rfl dX9_whereToListen_43 ?_
          refine r_getR hx (c' := 45) (i' := 0) FK9_8 e_v0 rfl wf_X9_32 dX9_whereToListen_44 (fun e6 => ?_)
          refine r_iconst hx ci_3 dX9_whereToListen_47 ?_
          refine r_iload hx 4 rfl dX9_whereToListen_48 ?_
          refine r_imul hx dX9_whereToListen_50 ?_
          refine r_iconst hx ci_1 dX9_whereToListen_51 ?_
          refine r_iadd hx dX9_whereToListen_52 ?_
          obtain ⟨b7, hf⟩ := f_chk hf
          refine r_iald hx (by decide) rfl e6 b7 rfl dX9_whereToListen_53 ?_
          refine r_aloadn hx 0 rfl rfl dX9_whereToListen_54 ?_
          refine r_getR hx (c' := 45) (i' := 0) FK9_8 e_v0 rfl wf_X9_32 dX9_whereToListen_55 (fun e8 => ?_)
          refine r_iconst hx ci_3 dX9_whereToListen_58 ?_
          refine r_iload hx 4 rfl dX9_whereToListen_59 ?_
          refine r_imul hx dX9_whereToListen_61 ?_
          refine r_iconst hx ci_2 dX9_whereToListen_62 ?_
          refine r_iadd hx dX9_whereToListen_63 ?_
          obtain ⟨b9, hf⟩ := f_chk hf
          refine r_iald hx (by decide) rfl e8 b9 rfl dX9_whereToListen_64 ?_
          refine r_mmax hx wm_X9_80 xws_max xwm xwk_max ⟨Nat.le_refl _, Nat.le_refl _⟩ (Nat.le_of_ble_eq_true rfl) (Nat.le_of_ble_eq_true rfl) dX9_whereToListen_65 ?_
          refine r_mmax hx wm_X9_80 xws_max xwm xwk_max ⟨Nat.le_refl _, Nat.le_refl _⟩ (Nat.le_of_ble_eq_true rfl) (Nat.le_of_ble_eq_true rfl) dX9_whereToListen_68 ?_
          refine r_istore (lv' := [(5, .int (mx (gi μ 45 0 (3 * v4).toNatClampNeg) (mx (gi μ 45 0 ((3 * v4) + 1).toNatClampNeg) (gi μ 45 0 ((3 * v4) + 2).toNatClampNeg)))), (0, .ref (kad k 9 0)), (1, .int v1), (2, .int v2), (3, .int v3), (4, .int v4)]) hx (Nat.le_of_ble_eq_true rfl) rfl dX9_whereToListen_71 ?_
          refine r_iload hx 0 rfl dX9_whereToListen_73 ?_
          refine r_iloadn hx 4 rfl rfl dX9_whereToListen_75 ?_
          refine r_icge (tgt := 87) hx rfl dX9_whereToListen_76 (fun q10 => ?_) (fun q10 => ?_)
          · have hf := (f_ite hf).1 q10
            refine r_sub [1, 2, 3, 4, 5] rfl ?_
            exact L87 _ ih  v1 v2 v3 v4 μ e_v0 hf
          · have hf := (f_ite hf).2 q10
            refine r_iload hx 0 rfl dX9_whereToListen_79 ?_
            refine r_istoren (lv' := [(3, .int (mx (gi μ 45 0 (3 * v4).toNatClampNeg) (mx (gi μ 45 0 ((3 * v4) + 1).toNatClampNeg) (gi μ 45 0 ((3 * v4) + 2).toNatClampNeg)))), (5, .int (mx (gi μ 45 0 (3 * v4).toNatClampNeg) (mx (gi μ 45 0 ((3 * v4) + 1).toNatClampNeg) (gi μ 45 0 ((3 * v4) + 2).toNatClampNeg)))), (0, .ref (kad k 9 0)), (1, .int v1), (2, .int v2), (4, .int v4)]) hx rfl (Nat.le_of_ble_eq_true rfl) rfl dX9_whereToListen_81 ?_
            refine r_iload hx 5 rfl dX9_whereToListen_82 ?_
            refine r_iconst hx ci_1 dX9_whereToListen_84 ?_
            refine r_iadd hx dX9_whereToListen_85 ?_
            refine r_istoren (lv' := [(2, .int (v4 + 1)), (3, .int (mx (gi μ 45 0 (3 * v4).toNatClampNeg) (mx (gi μ 45 0 ((3 * v4) + 1).toNatClampNeg) (gi μ 45 0 ((3 * v4) + 2).toNatClampNeg)))), (5, .int (mx (gi μ 45 0 (3 * v4).toNatClampNeg) (mx (gi μ 45 0 ((3 * v4) + 1).toNatClampNeg) (gi μ 45 0 ((3 * v4) + 2).toNatClampNeg)))), (0, .ref (kad k 9 0)), (1, .int v1), (4, .int v4)]) hx rfl (Nat.le_of_ble_eq_true rfl) rfl dX9_whereToListen_86 ?_
            refine r_sub [3, 4, 0, 1, 5] rfl ?_
            exact L87 _ ih  v1 (v4 + 1) (mx (gi μ 45 0 (3 * v4).toNatClampNeg) (mx (gi μ 45 0 ((3 * v4) + 1).toNatClampNeg) (gi μ 45 0 ((3 * v4) + 2).toNatClampNeg))) v4 μ e_v0 hf
  unfold fX9_whereToListen at hf
  refine r_aloadn hx 0 rfl rfl dX9_whereToListen_0 ?_
  refine r_getI hx FK9_1 e_this wf_X9_39 dX9_whereToListen_1 ?_
  refine r_ifne (tgt := 10) hx rfl dX9_whereToListen_4 (fun q1 => ?_) (fun q1 => ?_)
  · have hf := (f_ite hf).2 q1
    refine r_iconst hx ci_m1 dX9_whereToListen_10 ?_
    refine r_istoren (lv' := [(2, .int (-1)), (0, .ref (kad k 9 0)), (1, .int a1)]) hx rfl (Nat.le_of_ble_eq_true rfl) rfl dX9_whereToListen_11 ?_
    refine r_aloadn hx 1 rfl rfl dX9_whereToListen_12 ?_
    refine r_getI hx FK9_1 e_this wf_X9_39 dX9_whereToListen_13 ?_
    refine r_iconst hx ci_1 dX9_whereToListen_16 ?_
    refine r_iadd hx dX9_whereToListen_17 ?_
    refine r_istoren (lv' := [(3, .int ((gi μ 9 0 1) + 1)), (2, .int (-1)), (0, .ref (kad k 9 0)), (1, .int a1)]) hx rfl (Nat.le_of_ble_eq_true rfl) rfl dX9_whereToListen_18 ?_
    refine r_iconst hx ci_0 dX9_whereToListen_19 ?_
    refine r_istore (lv' := [(4, .int 0), (3, .int ((gi μ 9 0 1) + 1)), (2, .int (-1)), (0, .ref (kad k 9 0)), (1, .int a1)]) hx (Nat.le_of_ble_eq_true rfl) rfl dX9_whereToListen_20 ?_
    refine r_sub [3, 4, 2, 1, 0] rfl ?_
    exact L22 F a1 (-1) ((gi μ 9 0 1) + 1) 0 μ e_this hf
  · have hf := (f_ite hf).1 q1
    refine r_bipush hx cb_m2 dX9_whereToListen_7 ?_
    exact r_iret hx hf dX9_whereToListen_9
theorem dX10_at_0 : decode bX10_at 0 = .ok (.iload_n 0, 1) := by decide +kernel
theorem dX10_at_1 : decode bX10_at 1 = .ok (.iconst 1, 1) := by decide +kernel
theorem dX10_at_2 : decode bX10_at 2 = .ok (.if_icmp .lt 30, 3) := by decide +kernel
theorem dX10_at_5 : decode bX10_at 5 = .ok (.iload_n 0, 1) := by decide +kernel
theorem dX10_at_6 : decode bX10_at 6 = .ok (.bipush 99, 2) := by decide +kernel
theorem dX10_at_8 : decode bX10_at 8 = .ok (.if_icmp .gt 24, 3) := by decide +kernel
theorem dX10_at_11 : decode bX10_at 11 = .ok (.iload_n 1, 1) := by decide +kernel
theorem dX10_at_12 : decode bX10_at 12 = .ok (.ifCond .lt 20, 3) := by decide +kernel
theorem dX10_at_15 : decode bX10_at 15 = .ok (.iload_n 1, 1) := by decide +kernel
theorem dX10_at_16 : decode bX10_at 16 = .ok (.iload_n 0, 1) := by decide +kernel
theorem dX10_at_17 : decode bX10_at 17 = .ok (.if_icmp .ge 15, 3) := by decide +kernel
theorem dX10_at_20 : decode bX10_at 20 = .ok (.iload_n 0, 1) := by decide +kernel
theorem dX10_at_21 : decode bX10_at 21 = .ok (.iload_n 0, 1) := by decide +kernel
theorem dX10_at_22 : decode bX10_at 22 = .ok (.iconst 1, 1) := by decide +kernel
theorem dX10_at_23 : decode bX10_at 23 = .ok (.isub, 1) := by decide +kernel
theorem dX10_at_24 : decode bX10_at 24 = .ok (.imul, 1) := by decide +kernel
theorem dX10_at_25 : decode bX10_at 25 = .ok (.iconst 2, 1) := by decide +kernel
theorem dX10_at_26 : decode bX10_at 26 = .ok (.idiv, 1) := by decide +kernel
theorem dX10_at_27 : decode bX10_at 27 = .ok (.iload_n 1, 1) := by decide +kernel
theorem dX10_at_28 : decode bX10_at 28 = .ok (.iadd, 1) := by decide +kernel
theorem dX10_at_29 : decode bX10_at 29 = .ok (.goto 4, 3) := by decide +kernel
theorem dX10_at_32 : decode bX10_at 32 = .ok (.iconst 0, 1) := by decide +kernel
theorem dX10_at_33 : decode bX10_at 33 = .ok (.ireturn, 1) := by decide +kernel
set_option maxRecDepth 20000 in
set_option maxHeartbeats 4000000 in
theorem cX10_at {l : Launch} {k : Kx} {F : Nat} {a0 : Int32} {a1 : Int32} {μ μ' : Mm} {r : Int32} (hk : kok k) (hf : fX10_at F a0 a1 μ = some (r, μ')) : MM l k 0 yX10_at bX10_at 2 (some .int) [.int a0, .int a1] μ (some (.int r)) μ' := by
  refine MM.of (lv := [(0, .int a0), (1, .int a1)]) (plainFor_of_name (by decide)) hk (Nat.le_of_ble_eq_true rfl) rfl (fun z hl hx => ?_)
  subst hl
  have hx : Ok z k bX10_at 2 "RopeDance$Unwinding" (some .int) 0 (0, 0) := hx
  unfold fX10_at at hf
  refine r_iloadn hx 0 rfl rfl dX10_at_0 ?_
  refine r_iconst hx ci_1 dX10_at_1 ?_
  refine r_iclt (tgt := 32) hx rfl dX10_at_2 (fun q1 => ?_) (fun q1 => ?_)
  · have hf := (f_ite hf).1 q1
    refine r_iconst hx ci_0 dX10_at_32 ?_
    exact r_iret hx hf dX10_at_33
  · have hf := (f_ite hf).2 q1
    refine r_iloadn hx 0 rfl rfl dX10_at_5 ?_
    refine r_bipush hx cb_99 dX10_at_6 ?_
    refine r_icgt (tgt := 32) hx rfl dX10_at_8 (fun q2 => ?_) (fun q2 => ?_)
    · have hf := (f_ite hf).1 q2
      refine r_iconst hx ci_0 dX10_at_32 ?_
      exact r_iret hx hf dX10_at_33
    · have hf := (f_ite hf).2 q2
      refine r_iloadn hx 1 rfl rfl dX10_at_11 ?_
      refine r_iflt (tgt := 32) hx rfl dX10_at_12 (fun q3 => ?_) (fun q3 => ?_)
      · have hf := (f_ite hf).1 q3
        refine r_iconst hx ci_0 dX10_at_32 ?_
        exact r_iret hx hf dX10_at_33
      · have hf := (f_ite hf).2 q3
        refine r_iloadn hx 1 rfl rfl dX10_at_15 ?_
        refine r_iloadn hx 0 rfl rfl dX10_at_16 ?_
        refine r_icge (tgt := 32) hx rfl dX10_at_17 (fun q4 => ?_) (fun q4 => ?_)
        · have hf := (f_ite hf).1 q4
          refine r_iconst hx ci_0 dX10_at_32 ?_
          exact r_iret hx hf dX10_at_33
        · have hf := (f_ite hf).2 q4
          refine r_iloadn hx 0 rfl rfl dX10_at_20 ?_
          refine r_iloadn hx 0 rfl rfl dX10_at_21 ?_
          refine r_iconst hx ci_1 dX10_at_22 ?_
          refine r_isub hx dX10_at_23 ?_
          refine r_imul hx dX10_at_24 ?_
          refine r_iconst hx ci_2 dX10_at_25 ?_
          refine r_idiv hx (by decide) dX10_at_26 ?_
          refine r_iloadn hx 1 rfl rfl dX10_at_27 ?_
          refine r_iadd hx dX10_at_28 ?_
          refine r_goto (tgt := 33) hx rfl dX10_at_29 ?_
          exact r_iret hx hf dX10_at_33
theorem dX10_fewest_0 : decode bX10_fewest 0 = .ok (.iload_n 2, 1) := by decide +kernel
theorem dX10_fewest_1 : decode bX10_fewest 1 = .ok (.iconst 1, 1) := by decide +kernel
theorem dX10_fewest_2 : decode bX10_fewest 2 = .ok (.if_icmp .ge 5, 3) := by decide +kernel
theorem dX10_fewest_5 : decode bX10_fewest 5 = .ok (.iconst 1, 1) := by decide +kernel
theorem dX10_fewest_6 : decode bX10_fewest 6 = .ok (.ireturn, 1) := by decide +kernel
theorem dX10_fewest_7 : decode bX10_fewest 7 = .ok (.iload_n 1, 1) := by decide +kernel
theorem dX10_fewest_8 : decode bX10_fewest 8 = .ok (.invokestatic 30, 3) := by decide +kernel
theorem dX10_fewest_11 : decode bX10_fewest 11 = .ok (.istore_n 3, 1) := by decide +kernel
theorem dX10_fewest_12 : decode bX10_fewest 12 = .ok (.iload_n 3, 1) := by decide +kernel
theorem dX10_fewest_13 : decode bX10_fewest 13 = .ok (.iload_n 2, 1) := by decide +kernel
theorem dX10_fewest_14 : decode bX10_fewest 14 = .ok (.irem, 1) := by decide +kernel
theorem dX10_fewest_15 : decode bX10_fewest 15 = .ok (.istore 4, 2) := by decide +kernel
theorem dX10_fewest_17 : decode bX10_fewest 17 = .ok (.iload_n 3, 1) := by decide +kernel
theorem dX10_fewest_18 : decode bX10_fewest 18 = .ok (.iload_n 2, 1) := by decide +kernel
theorem dX10_fewest_19 : decode bX10_fewest 19 = .ok (.idiv, 1) := by decide +kernel
theorem dX10_fewest_20 : decode bX10_fewest 20 = .ok (.aload_n 0, 1) := by decide +kernel
theorem dX10_fewest_21 : decode bX10_fewest 21 = .ok (.getfield 11, 3) := by decide +kernel
theorem dX10_fewest_24 : decode bX10_fewest 24 = .ok (.iload_n 2, 1) := by decide +kernel
theorem dX10_fewest_25 : decode bX10_fewest 25 = .ok (.iload 4, 2) := by decide +kernel
theorem dX10_fewest_27 : decode bX10_fewest 27 = .ok (.invokestatic 20, 3) := by decide +kernel
theorem dX10_fewest_30 : decode bX10_fewest 30 = .ok (.iaload, 1) := by decide +kernel
theorem dX10_fewest_31 : decode bX10_fewest 31 = .ok (.iadd, 1) := by decide +kernel
theorem dX10_fewest_32 : decode bX10_fewest 32 = .ok (.istore 5, 2) := by decide +kernel
theorem dX10_fewest_34 : decode bX10_fewest 34 = .ok (.iload 4, 2) := by decide +kernel
theorem dX10_fewest_36 : decode bX10_fewest 36 = .ok (.ifCond .ne 8, 3) := by decide +kernel
theorem dX10_fewest_39 : decode bX10_fewest 39 = .ok (.iload 5, 2) := by decide +kernel
theorem dX10_fewest_41 : decode bX10_fewest 41 = .ok (.goto 27, 3) := by decide +kernel
theorem dX10_fewest_44 : decode bX10_fewest 44 = .ok (.iload 5, 2) := by decide +kernel
theorem dX10_fewest_46 : decode bX10_fewest 46 = .ok (.iload_n 3, 1) := by decide +kernel
theorem dX10_fewest_47 : decode bX10_fewest 47 = .ok (.iload_n 2, 1) := by decide +kernel
theorem dX10_fewest_48 : decode bX10_fewest 48 = .ok (.idiv, 1) := by decide +kernel
theorem dX10_fewest_49 : decode bX10_fewest 49 = .ok (.iconst 1, 1) := by decide +kernel
theorem dX10_fewest_50 : decode bX10_fewest 50 = .ok (.iadd, 1) := by decide +kernel
theorem dX10_fewest_51 : decode bX10_fewest 51 = .ok (.aload_n 0, 1) := by decide +kernel
theorem dX10_fewest_52 : decode bX10_fewest 52 = .ok (.getfield 11, 3) := by decide +kernel
theorem dX10_fewest_55 : decode bX10_fewest 55 = .ok (.iload_n 2, 1) := by decide +kernel
theorem dX10_fewest_56 : decode bX10_fewest 56 = .ok (.iload_n 2, 1) := by decide +kernel
theorem dX10_fewest_57 : decode bX10_fewest 57 = .ok (.iload 4, 2) := by decide +kernel
theorem dX10_fewest_59 : decode bX10_fewest 59 = .ok (.isub, 1) := by decide +kernel
theorem dX10_fewest_60 : decode bX10_fewest 60 = .ok (.invokestatic 20, 3) := by decide +kernel
theorem dX10_fewest_63 : decode bX10_fewest 63 = .ok (.iaload, 1) := by decide +kernel
theorem dX10_fewest_64 : decode bX10_fewest 64 = .ok (.iadd, 1) := by decide +kernel
theorem dX10_fewest_65 : decode bX10_fewest 65 = .ok (.invokestatic 36, 3) := by decide +kernel
theorem dX10_fewest_68 : decode bX10_fewest 68 = .ok (.ireturn, 1) := by decide +kernel
set_option maxRecDepth 20000 in
set_option maxHeartbeats 4000000 in
theorem cX10_fewest {l : Launch} {k : Kx} {F : Nat} {a1 : Int32} {a2 : Int32} {μ μ' : Mm} {r : Int32} (hk : kok k) (e_this : kex k 10 0) (hf : fX10_fewest F a1 a2 μ = some (r, μ')) : MM l k 1 yX10_fewest bX10_fewest 6 (some .int) [.ref (kad k 10 0), .int a1, .int a2] μ (some (.int r)) μ' := by
  refine MM.of (lv := [(0, .ref (kad k 10 0)), (1, .int a1), (2, .int a2)]) (plainFor_of_name (by decide)) hk (Nat.le_of_ble_eq_true rfl) rfl (fun z hl hx => ?_)
  subst hl
  have hx : Ok z k bX10_fewest 6 "RopeDance$Unwinding" (some .int) 1 (0, 0) := hx
  unfold fX10_fewest at hf
  refine r_iloadn hx 2 rfl rfl dX10_fewest_0 ?_
  refine r_iconst hx ci_1 dX10_fewest_1 ?_
  refine r_icge (tgt := 7) hx rfl dX10_fewest_2 (fun q1 => ?_) (fun q1 => ?_)
  · have hf := (f_ite hf).1 q1
    refine r_iloadn hx 1 rfl rfl dX10_fewest_7 ?_
    refine r_mabs hx wm_X10_30 xws_abs xwm xwk_abs ⟨Nat.le_refl _, Nat.le_refl _⟩ (Nat.le_of_ble_eq_true rfl) (Nat.le_of_ble_eq_true rfl) dX10_fewest_8 ?_
    refine r_istoren (lv' := [(3, .int (ab a1)), (0, .ref (kad k 10 0)), (1, .int a1), (2, .int a2)]) hx rfl (Nat.le_of_ble_eq_true rfl) rfl dX10_fewest_11 ?_
    refine r_iloadn hx 0 rfl rfl dX10_fewest_12 ?_
    refine r_iloadn hx 3 rfl rfl dX10_fewest_13 ?_
    obtain ⟨q2, hf⟩ := f_nz hf
    refine r_irem hx q2 dX10_fewest_14 ?_
    refine r_istore (lv' := [(4, .int (irm (ab a1) a2)), (3, .int (ab a1)), (0, .ref (kad k 10 0)), (1, .int a1), (2, .int a2)]) hx (Nat.le_of_ble_eq_true rfl) rfl dX10_fewest_15 ?_
    refine r_iloadn hx 1 rfl rfl dX10_fewest_17 ?_
    refine r_iloadn hx 4 rfl rfl dX10_fewest_18 ?_
    obtain ⟨q3, hf⟩ := f_nz hf
    refine r_idiv hx q3 dX10_fewest_19 ?_
    refine r_aloadn hx 2 rfl rfl dX10_fewest_20 ?_
    refine r_getR hx (c' := 46) (i' := 0) FK10_0 e_this rfl wf_X10_11 dX10_fewest_21 (fun e4 => ?_)
    refine r_iloadn hx 4 rfl rfl dX10_fewest_24 ?_
    refine r_iload hx 0 rfl dX10_fewest_25 ?_
    obtain ⟨r7, μ6, c5, hf⟩ := f_bd2 hf
    refine r_callS hx (As := [.int a2, .int (irm (ab a1) a2)]) (rest := [.ref (kad k 46 0), .int ((ab a1) / a2)]) (st1 := [.int r7, .ref (kad k 46 0), .int ((ab a1) / a2)]) MK_X10_at ws_X10_at wm_X10_20 ⟨Nat.le_refl _, Nat.le_refl _⟩ (cX10_at hk c5) (Nat.le_of_ble_eq_true rfl) rfl rfl (Nat.le_of_ble_eq_true rfl) rfl dX10_fewest_27 (fun hb8 => ?_)
    obtain ⟨b9, hf⟩ := f_chk hf
    refine r_iald hx (by decide) rfl e4 b9 rfl dX10_fewest_30 ?_
    refine r_iadd hx dX10_fewest_31 ?_
    refine r_istore (lv' := [(5, .int (((ab a1) / a2) + (gi μ6 46 0 r7.toNatClampNeg))), (4, .int (irm (ab a1) a2)), (3, .int (ab a1)), (0, .ref (kad k 10 0)), (1, .int a1), (2, .int a2)]) hx (Nat.le_of_ble_eq_true rfl) rfl dX10_fewest_32 ?_
    refine r_iload hx 1 rfl dX10_fewest_34 ?_
    refine r_ifne (tgt := 44) hx rfl dX10_fewest_36 (fun q10 => ?_) (fun q10 => ?_)
    · have hf := (f_ite hf).2 q10
      refine r_iload hx 0 rfl dX10_fewest_44 ?_
      refine r_iloadn hx 2 rfl rfl dX10_fewest_46 ?_
      refine r_iloadn hx 5 rfl rfl dX10_fewest_47 ?_
      obtain ⟨q11, hf⟩ := f_nz hf
      refine r_idiv hx q11 dX10_fewest_48 ?_
      refine r_iconst hx ci_1 dX10_fewest_49 ?_
      refine r_iadd hx dX10_fewest_50 ?_
      refine r_aloadn hx 3 rfl rfl dX10_fewest_51 ?_
      refine r_getR hx (c' := 46) (i' := 0) FK10_0 e_this rfl wf_X10_11 dX10_fewest_52 (fun e12 => ?_)
      refine r_iloadn hx 5 rfl rfl dX10_fewest_55 ?_
      refine r_iloadn hx 5 rfl rfl dX10_fewest_56 ?_
      refine r_iload hx 1 rfl dX10_fewest_57 ?_
      refine r_isub hx dX10_fewest_59 ?_
      obtain ⟨r15, μ14, c13, hf⟩ := f_bd2 hf
      refine r_callS hx (As := [.int a2, .int (a2 - (irm (ab a1) a2))]) (rest := [.ref (kad k 46 0), .int (((ab a1) / a2) + 1), .int (((ab a1) / a2) + (gi μ6 46 0 r7.toNatClampNeg))]) (st1 := [.int r15, .ref (kad k 46 0), .int (((ab a1) / a2) + 1), .int (((ab a1) / a2) + (gi μ6 46 0 r7.toNatClampNeg))]) MK_X10_at ws_X10_at wm_X10_20 ⟨Nat.le_refl _, Nat.le_refl _⟩ (cX10_at hk c13) (Nat.le_of_ble_eq_true rfl) rfl rfl (Nat.le_of_ble_eq_true rfl) rfl dX10_fewest_60 (fun hb16 => ?_)
      obtain ⟨b17, hf⟩ := f_chk hf
      refine r_iald hx (by decide) rfl e12 b17 rfl dX10_fewest_63 ?_
      refine r_iadd hx dX10_fewest_64 ?_
      refine r_mmin hx wm_X10_36 xws_min xwm xwk_min ⟨Nat.le_refl _, Nat.le_refl _⟩ (Nat.le_of_ble_eq_true rfl) (Nat.le_of_ble_eq_true rfl) dX10_fewest_65 ?_
      exact r_iret hx hf dX10_fewest_68
    · have hf := (f_ite hf).1 q10
      refine r_iload hx 0 rfl dX10_fewest_39 ?_
      refine r_goto (tgt := 68) hx rfl dX10_fewest_41 ?_
      exact r_iret hx hf dX10_fewest_68
  · have hf := (f_ite hf).2 q1
    refine r_iconst hx ci_1 dX10_fewest_5 ?_
    exact r_iret hx hf dX10_fewest_6
theorem dX10_howMany_0 : decode bX10_howMany 0 = .ok (.iload_n 2, 1) := by decide +kernel
theorem dX10_howMany_1 : decode bX10_howMany 1 = .ok (.iconst 1, 1) := by decide +kernel
theorem dX10_howMany_2 : decode bX10_howMany 2 = .ok (.if_icmp .ge 5, 3) := by decide +kernel
theorem dX10_howMany_5 : decode bX10_howMany 5 = .ok (.iconst 1, 1) := by decide +kernel
theorem dX10_howMany_6 : decode bX10_howMany 6 = .ok (.ireturn, 1) := by decide +kernel
theorem dX10_howMany_7 : decode bX10_howMany 7 = .ok (.iload_n 1, 1) := by decide +kernel
theorem dX10_howMany_8 : decode bX10_howMany 8 = .ok (.invokestatic 30, 3) := by decide +kernel
theorem dX10_howMany_11 : decode bX10_howMany 11 = .ok (.iload_n 2, 1) := by decide +kernel
theorem dX10_howMany_12 : decode bX10_howMany 12 = .ok (.irem, 1) := by decide +kernel
theorem dX10_howMany_13 : decode bX10_howMany 13 = .ok (.istore_n 3, 1) := by decide +kernel
theorem dX10_howMany_14 : decode bX10_howMany 14 = .ok (.iload_n 3, 1) := by decide +kernel
theorem dX10_howMany_15 : decode bX10_howMany 15 = .ok (.ifCond .ne 16, 3) := by decide +kernel
theorem dX10_howMany_18 : decode bX10_howMany 18 = .ok (.aload_n 0, 1) := by decide +kernel
theorem dX10_howMany_19 : decode bX10_howMany 19 = .ok (.getfield 17, 3) := by decide +kernel
theorem dX10_howMany_22 : decode bX10_howMany 22 = .ok (.iload_n 2, 1) := by decide +kernel
theorem dX10_howMany_23 : decode bX10_howMany 23 = .ok (.iconst 0, 1) := by decide +kernel
theorem dX10_howMany_24 : decode bX10_howMany 24 = .ok (.invokestatic 20, 3) := by decide +kernel
theorem dX10_howMany_27 : decode bX10_howMany 27 = .ok (.iaload, 1) := by decide +kernel
theorem dX10_howMany_28 : decode bX10_howMany 28 = .ok (.goto 26, 3) := by decide +kernel
theorem dX10_howMany_31 : decode bX10_howMany 31 = .ok (.aload_n 0, 1) := by decide +kernel
theorem dX10_howMany_32 : decode bX10_howMany 32 = .ok (.getfield 17, 3) := by decide +kernel
theorem dX10_howMany_35 : decode bX10_howMany 35 = .ok (.iload_n 2, 1) := by decide +kernel
theorem dX10_howMany_36 : decode bX10_howMany 36 = .ok (.iload_n 3, 1) := by decide +kernel
theorem dX10_howMany_37 : decode bX10_howMany 37 = .ok (.invokestatic 20, 3) := by decide +kernel
theorem dX10_howMany_40 : decode bX10_howMany 40 = .ok (.iaload, 1) := by decide +kernel
theorem dX10_howMany_41 : decode bX10_howMany 41 = .ok (.aload_n 0, 1) := by decide +kernel
theorem dX10_howMany_42 : decode bX10_howMany 42 = .ok (.getfield 17, 3) := by decide +kernel
theorem dX10_howMany_45 : decode bX10_howMany 45 = .ok (.iload_n 2, 1) := by decide +kernel
theorem dX10_howMany_46 : decode bX10_howMany 46 = .ok (.iload_n 2, 1) := by decide +kernel
theorem dX10_howMany_47 : decode bX10_howMany 47 = .ok (.iload_n 3, 1) := by decide +kernel
theorem dX10_howMany_48 : decode bX10_howMany 48 = .ok (.isub, 1) := by decide +kernel
theorem dX10_howMany_49 : decode bX10_howMany 49 = .ok (.invokestatic 20, 3) := by decide +kernel
theorem dX10_howMany_52 : decode bX10_howMany 52 = .ok (.iaload, 1) := by decide +kernel
theorem dX10_howMany_53 : decode bX10_howMany 53 = .ok (.iadd, 1) := by decide +kernel
theorem dX10_howMany_54 : decode bX10_howMany 54 = .ok (.ireturn, 1) := by decide +kernel
set_option maxRecDepth 20000 in
set_option maxHeartbeats 4000000 in
theorem cX10_howMany {l : Launch} {k : Kx} {F : Nat} {a1 : Int32} {a2 : Int32} {μ μ' : Mm} {r : Int32} (hk : kok k) (e_this : kex k 10 0) (hf : fX10_howMany F a1 a2 μ = some (r, μ')) : MM l k 1 yX10_howMany bX10_howMany 4 (some .int) [.ref (kad k 10 0), .int a1, .int a2] μ (some (.int r)) μ' := by
  refine MM.of (lv := [(0, .ref (kad k 10 0)), (1, .int a1), (2, .int a2)]) (plainFor_of_name (by decide)) hk (Nat.le_of_ble_eq_true rfl) rfl (fun z hl hx => ?_)
  subst hl
  have hx : Ok z k bX10_howMany 4 "RopeDance$Unwinding" (some .int) 1 (0, 0) := hx
  unfold fX10_howMany at hf
  refine r_iloadn hx 2 rfl rfl dX10_howMany_0 ?_
  refine r_iconst hx ci_1 dX10_howMany_1 ?_
  refine r_icge (tgt := 7) hx rfl dX10_howMany_2 (fun q1 => ?_) (fun q1 => ?_)
  · have hf := (f_ite hf).1 q1
    refine r_iloadn hx 1 rfl rfl dX10_howMany_7 ?_
    refine r_mabs hx wm_X10_30 xws_abs xwm xwk_abs ⟨Nat.le_refl _, Nat.le_refl _⟩ (Nat.le_of_ble_eq_true rfl) (Nat.le_of_ble_eq_true rfl) dX10_howMany_8 ?_
    refine r_iloadn hx 2 rfl rfl dX10_howMany_11 ?_
    obtain ⟨q2, hf⟩ := f_nz hf
    refine r_irem hx q2 dX10_howMany_12 ?_
    refine r_istoren (lv' := [(3, .int (irm (ab a1) a2)), (0, .ref (kad k 10 0)), (1, .int a1), (2, .int a2)]) hx rfl (Nat.le_of_ble_eq_true rfl) rfl dX10_howMany_13 ?_
    refine r_iloadn hx 0 rfl rfl dX10_howMany_14 ?_
    refine r_ifne (tgt := 31) hx rfl dX10_howMany_15 (fun q3 => ?_) (fun q3 => ?_)
    · have hf := (f_ite hf).2 q3
      refine r_aloadn hx 1 rfl rfl dX10_howMany_31 ?_
      refine r_getR hx (c' := 47) (i' := 0) FK10_1 e_this rfl wf_X10_17 dX10_howMany_32 (fun e4 => ?_)
      refine r_iloadn hx 3 rfl rfl dX10_howMany_35 ?_
      refine r_iloadn hx 0 rfl rfl dX10_howMany_36 ?_
      obtain ⟨r7, μ6, c5, hf⟩ := f_bd2 hf
      refine r_callS hx (As := [.int a2, .int (irm (ab a1) a2)]) (rest := [.ref (kad k 47 0)]) (st1 := [.int r7, .ref (kad k 47 0)]) MK_X10_at ws_X10_at wm_X10_20 ⟨Nat.le_refl _, Nat.le_refl _⟩ (cX10_at hk c5) (Nat.le_of_ble_eq_true rfl) rfl rfl (Nat.le_of_ble_eq_true rfl) rfl dX10_howMany_37 (fun hb8 => ?_)
      obtain ⟨b9, hf⟩ := f_chk hf
      refine r_iald hx (by decide) rfl e4 b9 rfl dX10_howMany_40 ?_
      refine r_aloadn hx 1 rfl rfl dX10_howMany_41 ?_
      refine r_getR hx (c' := 47) (i' := 0) FK10_1 e_this rfl wf_X10_17 dX10_howMany_42 (fun e10 => ?_)
      refine r_iloadn hx 3 rfl rfl dX10_howMany_45 ?_
      refine r_iloadn hx 3 rfl rfl dX10_howMany_46 ?_
      refine r_iloadn hx 0 rfl rfl dX10_howMany_47 ?_
      refine r_isub hx dX10_howMany_48 ?_
      obtain ⟨r13, μ12, c11, hf⟩ := f_bd2 hf
      refine r_callS hx (As := [.int a2, .int (a2 - (irm (ab a1) a2))]) (rest := [.ref (kad k 47 0), .int (gi μ6 47 0 r7.toNatClampNeg)]) (st1 := [.int r13, .ref (kad k 47 0), .int (gi μ6 47 0 r7.toNatClampNeg)]) MK_X10_at ws_X10_at wm_X10_20 ⟨Nat.le_refl _, Nat.le_refl _⟩ (cX10_at hk c11) (Nat.le_of_ble_eq_true rfl) rfl rfl (Nat.le_of_ble_eq_true rfl) rfl dX10_howMany_49 (fun hb14 => ?_)
      obtain ⟨b15, hf⟩ := f_chk hf
      refine r_iald hx (by decide) rfl e10 b15 rfl dX10_howMany_52 ?_
      refine r_iadd hx dX10_howMany_53 ?_
      exact r_iret hx hf dX10_howMany_54
    · have hf := (f_ite hf).1 q3
      refine r_aloadn hx 1 rfl rfl dX10_howMany_18 ?_
      refine r_getR hx (c' := 47) (i' := 0) FK10_1 e_this rfl wf_X10_17 dX10_howMany_19 (fun e16 => ?_)
      refine r_iloadn hx 3 rfl rfl dX10_howMany_22 ?_
      refine r_iconst hx ci_0 dX10_howMany_23 ?_
      obtain ⟨r19, μ18, c17, hf⟩ := f_bd2 hf
      refine r_callS hx (As := [.int a2, .int 0]) (rest := [.ref (kad k 47 0)]) (st1 := [.int r19, .ref (kad k 47 0)]) MK_X10_at ws_X10_at wm_X10_20 ⟨Nat.le_refl _, Nat.le_refl _⟩ (cX10_at hk c17) (Nat.le_of_ble_eq_true rfl) rfl rfl (Nat.le_of_ble_eq_true rfl) rfl dX10_howMany_24 (fun hb20 => ?_)
      obtain ⟨b21, hf⟩ := f_chk hf
      refine r_iald hx (by decide) rfl e16 b21 rfl dX10_howMany_27 ?_
      refine r_goto (tgt := 54) hx rfl dX10_howMany_28 ?_
      exact r_iret hx hf dX10_howMany_54
  · have hf := (f_ite hf).2 q1
    refine r_iconst hx ci_1 dX10_howMany_5 ?_
    exact r_iret hx hf dX10_howMany_6
theorem dX10_goalOf_0 : decode bX10_goalOf 0 = .ok (.iload_n 2, 1) := by decide +kernel
theorem dX10_goalOf_1 : decode bX10_goalOf 1 = .ok (.iconst 1, 1) := by decide +kernel
theorem dX10_goalOf_2 : decode bX10_goalOf 2 = .ok (.if_icmp .ge 5, 3) := by decide +kernel
theorem dX10_goalOf_5 : decode bX10_goalOf 5 = .ok (.iload_n 1, 1) := by decide +kernel
theorem dX10_goalOf_6 : decode bX10_goalOf 6 = .ok (.ireturn, 1) := by decide +kernel
theorem dX10_goalOf_7 : decode bX10_goalOf 7 = .ok (.iload_n 1, 1) := by decide +kernel
theorem dX10_goalOf_8 : decode bX10_goalOf 8 = .ok (.iload_n 2, 1) := by decide +kernel
theorem dX10_goalOf_9 : decode bX10_goalOf 9 = .ok (.invokestatic 42, 3) := by decide +kernel
theorem dX10_goalOf_12 : decode bX10_goalOf 12 = .ok (.istore_n 3, 1) := by decide +kernel
theorem dX10_goalOf_13 : decode bX10_goalOf 13 = .ok (.iload_n 3, 1) := by decide +kernel
theorem dX10_goalOf_14 : decode bX10_goalOf 14 = .ok (.ifCond .ne 5, 3) := by decide +kernel
theorem dX10_goalOf_17 : decode bX10_goalOf 17 = .ok (.iconst 0, 1) := by decide +kernel
theorem dX10_goalOf_18 : decode bX10_goalOf 18 = .ok (.ireturn, 1) := by decide +kernel
theorem dX10_goalOf_19 : decode bX10_goalOf 19 = .ok (.iload_n 1, 1) := by decide +kernel
theorem dX10_goalOf_20 : decode bX10_goalOf 20 = .ok (.iload_n 3, 1) := by decide +kernel
theorem dX10_goalOf_21 : decode bX10_goalOf 21 = .ok (.isub, 1) := by decide +kernel
theorem dX10_goalOf_22 : decode bX10_goalOf 22 = .ok (.invokestatic 30, 3) := by decide +kernel
theorem dX10_goalOf_25 : decode bX10_goalOf 25 = .ok (.iload_n 2, 1) := by decide +kernel
theorem dX10_goalOf_26 : decode bX10_goalOf 26 = .ok (.idiv, 1) := by decide +kernel
theorem dX10_goalOf_27 : decode bX10_goalOf 27 = .ok (.aload_n 0, 1) := by decide +kernel
theorem dX10_goalOf_28 : decode bX10_goalOf 28 = .ok (.getfield 11, 3) := by decide +kernel
theorem dX10_goalOf_31 : decode bX10_goalOf 31 = .ok (.iload_n 2, 1) := by decide +kernel
theorem dX10_goalOf_32 : decode bX10_goalOf 32 = .ok (.iload_n 3, 1) := by decide +kernel
theorem dX10_goalOf_33 : decode bX10_goalOf 33 = .ok (.invokestatic 20, 3) := by decide +kernel
theorem dX10_goalOf_36 : decode bX10_goalOf 36 = .ok (.iaload, 1) := by decide +kernel
theorem dX10_goalOf_37 : decode bX10_goalOf 37 = .ok (.iadd, 1) := by decide +kernel
theorem dX10_goalOf_38 : decode bX10_goalOf 38 = .ok (.istore 4, 2) := by decide +kernel
theorem dX10_goalOf_40 : decode bX10_goalOf 40 = .ok (.iload_n 1, 1) := by decide +kernel
theorem dX10_goalOf_41 : decode bX10_goalOf 41 = .ok (.iload_n 3, 1) := by decide +kernel
theorem dX10_goalOf_42 : decode bX10_goalOf 42 = .ok (.isub, 1) := by decide +kernel
theorem dX10_goalOf_43 : decode bX10_goalOf 43 = .ok (.iload_n 2, 1) := by decide +kernel
theorem dX10_goalOf_44 : decode bX10_goalOf 44 = .ok (.iadd, 1) := by decide +kernel
theorem dX10_goalOf_45 : decode bX10_goalOf 45 = .ok (.invokestatic 30, 3) := by decide +kernel
theorem dX10_goalOf_48 : decode bX10_goalOf 48 = .ok (.iload_n 2, 1) := by decide +kernel
theorem dX10_goalOf_49 : decode bX10_goalOf 49 = .ok (.idiv, 1) := by decide +kernel
theorem dX10_goalOf_50 : decode bX10_goalOf 50 = .ok (.aload_n 0, 1) := by decide +kernel
theorem dX10_goalOf_51 : decode bX10_goalOf 51 = .ok (.getfield 11, 3) := by decide +kernel
theorem dX10_goalOf_54 : decode bX10_goalOf 54 = .ok (.iload_n 2, 1) := by decide +kernel
theorem dX10_goalOf_55 : decode bX10_goalOf 55 = .ok (.iload_n 2, 1) := by decide +kernel
theorem dX10_goalOf_56 : decode bX10_goalOf 56 = .ok (.iload_n 3, 1) := by decide +kernel
theorem dX10_goalOf_57 : decode bX10_goalOf 57 = .ok (.isub, 1) := by decide +kernel
theorem dX10_goalOf_58 : decode bX10_goalOf 58 = .ok (.invokestatic 20, 3) := by decide +kernel
theorem dX10_goalOf_61 : decode bX10_goalOf 61 = .ok (.iaload, 1) := by decide +kernel
theorem dX10_goalOf_62 : decode bX10_goalOf 62 = .ok (.iadd, 1) := by decide +kernel
theorem dX10_goalOf_63 : decode bX10_goalOf 63 = .ok (.istore 5, 2) := by decide +kernel
theorem dX10_goalOf_65 : decode bX10_goalOf 65 = .ok (.iload 4, 2) := by decide +kernel
theorem dX10_goalOf_67 : decode bX10_goalOf 67 = .ok (.iload 5, 2) := by decide +kernel
theorem dX10_goalOf_69 : decode bX10_goalOf 69 = .ok (.if_icmp .gt 7, 3) := by decide +kernel
theorem dX10_goalOf_72 : decode bX10_goalOf 72 = .ok (.iload_n 3, 1) := by decide +kernel
theorem dX10_goalOf_73 : decode bX10_goalOf 73 = .ok (.goto 6, 3) := by decide +kernel
theorem dX10_goalOf_76 : decode bX10_goalOf 76 = .ok (.iload_n 3, 1) := by decide +kernel
theorem dX10_goalOf_77 : decode bX10_goalOf 77 = .ok (.iload_n 2, 1) := by decide +kernel
theorem dX10_goalOf_78 : decode bX10_goalOf 78 = .ok (.isub, 1) := by decide +kernel
theorem dX10_goalOf_79 : decode bX10_goalOf 79 = .ok (.ireturn, 1) := by decide +kernel
set_option maxRecDepth 20000 in
set_option maxHeartbeats 4000000 in
theorem cX10_goalOf {l : Launch} {k : Kx} {F : Nat} {a1 : Int32} {a2 : Int32} {μ μ' : Mm} {r : Int32} (hk : kok k) (e_this : kex k 10 0) (hf : fX10_goalOf F a1 a2 μ = some (r, μ')) : MM l k 1 yX10_goalOf bX10_goalOf 6 (some .int) [.ref (kad k 10 0), .int a1, .int a2] μ (some (.int r)) μ' := by
  refine MM.of (lv := [(0, .ref (kad k 10 0)), (1, .int a1), (2, .int a2)]) (plainFor_of_name (by decide)) hk (Nat.le_of_ble_eq_true rfl) rfl (fun z hl hx => ?_)
  subst hl
  have hx : Ok z k bX10_goalOf 6 "RopeDance$Unwinding" (some .int) 1 (0, 0) := hx
  unfold fX10_goalOf at hf
  refine r_iloadn hx 2 rfl rfl dX10_goalOf_0 ?_
  refine r_iconst hx ci_1 dX10_goalOf_1 ?_
  refine r_icge (tgt := 7) hx rfl dX10_goalOf_2 (fun q1 => ?_) (fun q1 => ?_)
  · have hf := (f_ite hf).1 q1
    refine r_iloadn hx 1 rfl rfl dX10_goalOf_7 ?_
    refine r_iloadn hx 2 rfl rfl dX10_goalOf_8 ?_
    obtain ⟨r4, μ3, c2, hf⟩ := f_bd2 hf
    refine r_callS hx (As := [.int a1, .int a2]) (rest := []) (st1 := [.int r4]) MK_J9_floorMod_7cf53 ws_J9_floorMod_7cf53 wm_X10_42 ⟨Nat.le_refl _, Nat.le_refl _⟩ (cJ9_floorMod_7cf53 hk c2) (Nat.le_of_ble_eq_true rfl) rfl rfl (Nat.le_of_ble_eq_true rfl) rfl dX10_goalOf_9 (fun hb5 => ?_)
    refine r_istoren (lv' := [(3, .int r4), (0, .ref (kad k 10 0)), (1, .int a1), (2, .int a2)]) hx rfl (Nat.le_of_ble_eq_true rfl) rfl dX10_goalOf_12 ?_
    refine r_iloadn hx 0 rfl rfl dX10_goalOf_13 ?_
    refine r_ifne (tgt := 19) hx rfl dX10_goalOf_14 (fun q6 => ?_) (fun q6 => ?_)
    · have hf := (f_ite hf).2 q6
      refine r_iloadn hx 2 rfl rfl dX10_goalOf_19 ?_
      refine r_iloadn hx 0 rfl rfl dX10_goalOf_20 ?_
      refine r_isub hx dX10_goalOf_21 ?_
      refine r_mabs hx wm_X10_30 xws_abs xwm xwk_abs ⟨Nat.le_refl _, Nat.le_refl _⟩ (Nat.le_of_ble_eq_true rfl) (Nat.le_of_ble_eq_true rfl) dX10_goalOf_22 ?_
      refine r_iloadn hx 3 rfl rfl dX10_goalOf_25 ?_
      obtain ⟨q7, hf⟩ := f_nz hf
      refine r_idiv hx q7 dX10_goalOf_26 ?_
      refine r_aloadn hx 1 rfl rfl dX10_goalOf_27 ?_
      refine r_getR hx (c' := 46) (i' := 0) FK10_0 e_this rfl wf_X10_11 dX10_goalOf_28 (fun e8 => ?_)
      refine r_iloadn hx 3 rfl rfl dX10_goalOf_31 ?_
      refine r_iloadn hx 0 rfl rfl dX10_goalOf_32 ?_
      obtain ⟨r11, μ10, c9, hf⟩ := f_bd2 hf
      refine r_callS hx (As := [.int a2, .int r4]) (rest := [.ref (kad k 46 0), .int ((ab (a1 - r4)) / a2)]) (st1 := [.int r11, .ref (kad k 46 0), .int ((ab (a1 - r4)) / a2)]) MK_X10_at ws_X10_at wm_X10_20 ⟨Nat.le_refl _, Nat.le_refl _⟩ (cX10_at hk c9) (Nat.le_of_ble_eq_true rfl) rfl rfl (Nat.le_of_ble_eq_true rfl) rfl dX10_goalOf_33 (fun hb12 => ?_)
      obtain ⟨b13, hf⟩ := f_chk hf
      refine r_iald hx (by decide) rfl e8 b13 rfl dX10_goalOf_36 ?_
      refine r_iadd hx dX10_goalOf_37 ?_
      refine r_istore (lv' := [(4, .int (((ab (a1 - r4)) / a2) + (gi μ10 46 0 r11.toNatClampNeg))), (3, .int r4), (0, .ref (kad k 10 0)), (1, .int a1), (2, .int a2)]) hx (Nat.le_of_ble_eq_true rfl) rfl dX10_goalOf_38 ?_
      refine r_iloadn hx 3 rfl rfl dX10_goalOf_40 ?_
      refine r_iloadn hx 1 rfl rfl dX10_goalOf_41 ?_
      refine r_isub hx dX10_goalOf_42 ?_
      refine r_iloadn hx 4 rfl rfl dX10_goalOf_43 ?_
      refine r_iadd hx dX10_goalOf_44 ?_
      refine r_mabs hx wm_X10_30 xws_abs xwm xwk_abs ⟨Nat.le_refl _, Nat.le_refl _⟩ (Nat.le_of_ble_eq_true rfl) (Nat.le_of_ble_eq_true rfl) dX10_goalOf_45 ?_
      refine r_iloadn hx 4 rfl rfl dX10_goalOf_48 ?_
      obtain ⟨q14, hf⟩ := f_nz hf
      refine r_idiv hx q14 dX10_goalOf_49 ?_
      refine r_aloadn hx 2 rfl rfl dX10_goalOf_50 ?_
      refine r_getR hx (c' := 46) (i' := 0) FK10_0 e_this rfl wf_X10_11 dX10_goalOf_51 (fun e15 => ?_)
      refine r_iloadn hx 4 rfl rfl dX10_goalOf_54 ?_
      refine r_iloadn hx 4 rfl rfl dX10_goalOf_55 ?_
      refine r_iloadn hx 1 rfl rfl dX10_goalOf_56 ?_
      refine r_isub hx dX10_goalOf_57 ?_
      obtain ⟨r18, μ17, c16, hf⟩ := f_bd2 hf
      refine r_callS hx (As := [.int a2, .int (a2 - r4)]) (rest := [.ref (kad k 46 0), .int ((ab ((a1 - r4) + a2)) / a2)]) (st1 := [.int r18, .ref (kad k 46 0), .int ((ab ((a1 - r4) + a2)) / a2)]) MK_X10_at ws_X10_at wm_X10_20 ⟨Nat.le_refl _, Nat.le_refl _⟩ (cX10_at hk c16) (Nat.le_of_ble_eq_true rfl) rfl rfl (Nat.le_of_ble_eq_true rfl) rfl dX10_goalOf_58 (fun hb19 => ?_)
      obtain ⟨b20, hf⟩ := f_chk hf
      refine r_iald hx (by decide) rfl e15 b20 rfl dX10_goalOf_61 ?_
      refine r_iadd hx dX10_goalOf_62 ?_
      refine r_istore (lv' := [(5, .int (((ab ((a1 - r4) + a2)) / a2) + (gi μ17 46 0 r18.toNatClampNeg))), (4, .int (((ab (a1 - r4)) / a2) + (gi μ10 46 0 r11.toNatClampNeg))), (3, .int r4), (0, .ref (kad k 10 0)), (1, .int a1), (2, .int a2)]) hx (Nat.le_of_ble_eq_true rfl) rfl dX10_goalOf_63 ?_
      refine r_iload hx 1 rfl dX10_goalOf_65 ?_
      refine r_iload hx 0 rfl dX10_goalOf_67 ?_
      refine r_icgt (tgt := 76) hx rfl dX10_goalOf_69 (fun q21 => ?_) (fun q21 => ?_)
      · have hf := (f_ite hf).1 q21
        refine r_iloadn hx 2 rfl rfl dX10_goalOf_76 ?_
        refine r_iloadn hx 5 rfl rfl dX10_goalOf_77 ?_
        refine r_isub hx dX10_goalOf_78 ?_
        exact r_iret hx hf dX10_goalOf_79
      · have hf := (f_ite hf).2 q21
        refine r_iloadn hx 2 rfl rfl dX10_goalOf_72 ?_
        refine r_goto (tgt := 79) hx rfl dX10_goalOf_73 ?_
        exact r_iret hx hf dX10_goalOf_79
    · have hf := (f_ite hf).1 q6
      refine r_iconst hx ci_0 dX10_goalOf_17 ?_
      exact r_iret hx hf dX10_goalOf_18
  · have hf := (f_ite hf).2 q1
    refine r_iloadn hx 1 rfl rfl dX10_goalOf_5 ?_
    exact r_iret hx hf dX10_goalOf_6
theorem dX10_thing_0 : decode bX10_thing 0 = .ok (.iload_n 1, 1) := by decide +kernel
theorem dX10_thing_1 : decode bX10_thing 1 = .ok (.istore 4, 2) := by decide +kernel
theorem dX10_thing_3 : decode bX10_thing 3 = .ok (.iload_n 2, 1) := by decide +kernel
theorem dX10_thing_4 : decode bX10_thing 4 = .ok (.istore 5, 2) := by decide +kernel
theorem dX10_thing_6 : decode bX10_thing 6 = .ok (.iload_n 3, 1) := by decide +kernel
theorem dX10_thing_7 : decode bX10_thing 7 = .ok (.istore 6, 2) := by decide +kernel
theorem dX10_thing_9 : decode bX10_thing 9 = .ok (.iconst 0, 1) := by decide +kernel
theorem dX10_thing_10 : decode bX10_thing 10 = .ok (.istore 7, 2) := by decide +kernel
theorem dX10_thing_12 : decode bX10_thing 12 = .ok (.iload 7, 2) := by decide +kernel
theorem dX10_thing_14 : decode bX10_thing 14 = .ok (.bipush 100, 2) := by decide +kernel
theorem dX10_thing_16 : decode bX10_thing 16 = .ok (.if_icmp .gt 101, 3) := by decide +kernel
theorem dX10_thing_19 : decode bX10_thing 19 = .ok (.iload 6, 2) := by decide +kernel
theorem dX10_thing_21 : decode bX10_thing 21 = .ok (.ifCond .lt 96, 3) := by decide +kernel
theorem dX10_thing_24 : decode bX10_thing 24 = .ok (.aload_n 0, 1) := by decide +kernel
theorem dX10_thing_25 : decode bX10_thing 25 = .ok (.iload 4, 2) := by decide +kernel
theorem dX10_thing_27 : decode bX10_thing 27 = .ok (.iload 5, 2) := by decide +kernel
theorem dX10_thing_29 : decode bX10_thing 29 = .ok (.invokevirtual 39, 3) := by decide +kernel
theorem dX10_thing_32 : decode bX10_thing 32 = .ok (.istore 8, 2) := by decide +kernel
theorem dX10_thing_34 : decode bX10_thing 34 = .ok (.iload 5, 2) := by decide +kernel
theorem dX10_thing_36 : decode bX10_thing 36 = .ok (.ifCond .ne 7, 3) := by decide +kernel
theorem dX10_thing_39 : decode bX10_thing 39 = .ok (.iconst 0, 1) := by decide +kernel
theorem dX10_thing_40 : decode bX10_thing 40 = .ok (.goto 11, 3) := by decide +kernel
theorem dX10_thing_43 : decode bX10_thing 43 = .ok (.iload 8, 2) := by decide +kernel
theorem dX10_thing_45 : decode bX10_thing 45 = .ok (.iload 4, 2) := by decide +kernel
theorem dX10_thing_47 : decode bX10_thing 47 = .ok (.isub, 1) := by decide +kernel
theorem dX10_thing_48 : decode bX10_thing 48 = .ok (.iload 5, 2) := by decide +kernel
theorem dX10_thing_50 : decode bX10_thing 50 = .ok (.idiv, 1) := by decide +kernel
theorem dX10_thing_51 : decode bX10_thing 51 = .ok (.istore 9, 2) := by decide +kernel
theorem dX10_thing_53 : decode bX10_thing 53 = .ok (.iload 9, 2) := by decide +kernel
theorem dX10_thing_55 : decode bX10_thing 55 = .ok (.ifCond .eq 14, 3) := by decide +kernel
theorem dX10_thing_58 : decode bX10_thing 58 = .ok (.iload 6, 2) := by decide +kernel
theorem dX10_thing_60 : decode bX10_thing 60 = .ok (.ifCond .ne 6, 3) := by decide +kernel
theorem dX10_thing_63 : decode bX10_thing 63 = .ok (.iload 9, 2) := by decide +kernel
theorem dX10_thing_65 : decode bX10_thing 65 = .ok (.ireturn, 1) := by decide +kernel
theorem dX10_thing_66 : decode bX10_thing 66 = .ok (.iinc 6 (-1), 3) := by decide +kernel
theorem dX10_thing_69 : decode bX10_thing 69 = .ok (.iload 8, 2) := by decide +kernel
theorem dX10_thing_71 : decode bX10_thing 71 = .ok (.ifCond .ne 7, 3) := by decide +kernel
theorem dX10_thing_74 : decode bX10_thing 74 = .ok (.sipush (-1000), 3) := by decide +kernel
theorem dX10_thing_77 : decode bX10_thing 77 = .ok (.ireturn, 1) := by decide +kernel
theorem dX10_thing_78 : decode bX10_thing 78 = .ok (.iload 6, 2) := by decide +kernel
theorem dX10_thing_80 : decode bX10_thing 80 = .ok (.ifCond .ne 6, 3) := by decide +kernel
theorem dX10_thing_83 : decode bX10_thing 83 = .ok (.bipush 100, 2) := by decide +kernel
theorem dX10_thing_85 : decode bX10_thing 85 = .ok (.ireturn, 1) := by decide +kernel
theorem dX10_thing_86 : decode bX10_thing 86 = .ok (.iinc 6 (-1), 3) := by decide +kernel
theorem dX10_thing_89 : decode bX10_thing 89 = .ok (.iload 8, 2) := by decide +kernel
theorem dX10_thing_91 : decode bX10_thing 91 = .ok (.ifCond .le 9, 3) := by decide +kernel
theorem dX10_thing_94 : decode bX10_thing 94 = .ok (.iload 5, 2) := by decide +kernel
theorem dX10_thing_96 : decode bX10_thing 96 = .ok (.ineg, 1) := by decide +kernel
theorem dX10_thing_97 : decode bX10_thing 97 = .ok (.goto 5, 3) := by decide +kernel
theorem dX10_thing_100 : decode bX10_thing 100 = .ok (.iload 5, 2) := by decide +kernel
theorem dX10_thing_102 : decode bX10_thing 102 = .ok (.istore 4, 2) := by decide +kernel
theorem dX10_thing_104 : decode bX10_thing 104 = .ok (.iload 8, 2) := by decide +kernel
theorem dX10_thing_106 : decode bX10_thing 106 = .ok (.invokestatic 30, 3) := by decide +kernel
theorem dX10_thing_109 : decode bX10_thing 109 = .ok (.istore 5, 2) := by decide +kernel
theorem dX10_thing_111 : decode bX10_thing 111 = .ok (.iinc 7 1, 3) := by decide +kernel
theorem dX10_thing_114 : decode bX10_thing 114 = .ok (.goto (-102), 3) := by decide +kernel
theorem dX10_thing_117 : decode bX10_thing 117 = .ok (.sipush (-1000), 3) := by decide +kernel
theorem dX10_thing_120 : decode bX10_thing 120 = .ok (.ireturn, 1) := by decide +kernel
set_option maxRecDepth 20000 in
set_option maxHeartbeats 4000000 in
theorem cX10_thing {l : Launch} {k : Kx} {F : Nat} {a1 : Int32} {a2 : Int32} {a3 : Int32} {μ μ' : Mm} {r : Int32} (hk : kok k) (e_this : kex k 10 0) (hf : fX10_thing F a1 a2 a3 μ = some (r, μ')) : MM l k 2 yX10_thing bX10_thing 10 (some .int) [.ref (kad k 10 0), .int a1, .int a2, .int a3] μ (some (.int r)) μ' := by
  refine MM.of (lv := [(0, .ref (kad k 10 0)), (1, .int a1), (2, .int a2), (3, .int a3)]) (plainFor_of_name (by decide)) hk (Nat.le_of_ble_eq_true rfl) rfl (fun z hl hx => ?_)
  subst hl
  have hx : Ok z k bX10_thing 10 "RopeDance$Unwinding" (some .int) 2 (0, 0) := hx
  have L102 : ∀ (K12 : Int32 → Int32 → Int32 → Int32 → Mm → Option (Int32 × Mm)) (HK12 : ∀ (v4 : Int32) (v5 : Int32) (v6 : Int32) (v7 : Int32) (μ : Mm) (e_v0 : kex k 10 0), K12 v4 v5 v6 v7 μ = some (r, μ') → Gw z k 10 (k, (0, 0), (some .int), (some (.int r)), μ') (0, 0) 12 μ [(0, .ref (kad k 10 0)), (4, .int v4), (5, .int v5), (6, .int v6), (7, .int v7)] []) (v6 : Int32) (v7 : Int32) (v8 : Int32) (s0 : Int32) (μ : Mm) (e_v0 : kex k 10 0), fX10_thing_L102 F K12 v6 v7 v8 s0 μ = some (r, μ') → Gw z k 10 (k, (0, 0), (some .int), (some (.int r)), μ') (0, 0) 102 μ [(0, .ref (kad k 10 0)), (6, .int v6), (7, .int v7), (8, .int v8)] [.int s0] := by
    intro K12 HK12 v6 v7 v8 s0 μ e_v0 hf
    unfold fX10_thing_L102 at hf
    refine r_istore (lv' := [(4, .int s0), (0, .ref (kad k 10 0)), (6, .int v6), (7, .int v7), (8, .int v8)]) hx (Nat.le_of_ble_eq_true rfl) rfl dX10_thing_102 ?_
    refine r_iload hx 4 rfl dX10_thing_104 ?_
    refine r_mabs hx wm_X10_30 xws_abs xwm xwk_abs ⟨Nat.le_refl _, Nat.le_refl _⟩ (Nat.le_of_ble_eq_true rfl) (Nat.le_of_ble_eq_true rfl) dX10_thing_106 ?_
    refine r_istore (lv' := [(5, .int (ab v8)), (4, .int s0), (0, .ref (kad k 10 0)), (6, .int v6), (7, .int v7), (8, .int v8)]) hx (Nat.le_of_ble_eq_true rfl) rfl dX10_thing_109 ?_
    refine r_iinc (lv' := [(7, .int (v7 + 1)), (5, .int (ab v8)), (4, .int s0), (0, .ref (kad k 10 0)), (6, .int v6), (8, .int v8)]) hx 4 rfl (congrArg (fun y => v7 + y) ci_1) (Nat.le_of_ble_eq_true rfl) rfl dX10_thing_111 ?_
    refine r_goto (tgt := 12) hx rfl dX10_thing_114 ?_
    refine r_sub [3, 2, 1, 4, 0] rfl ?_
    exact HK12 s0 (ab v8) v6 (v7 + 1) μ e_v0 hf
  have L69 : ∀ (K12 : Int32 → Int32 → Int32 → Int32 → Mm → Option (Int32 × Mm)) (HK12 : ∀ (v4 : Int32) (v5 : Int32) (v6 : Int32) (v7 : Int32) (μ : Mm) (e_v0 : kex k 10 0), K12 v4 v5 v6 v7 μ = some (r, μ') → Gw z k 10 (k, (0, 0), (some .int), (some (.int r)), μ') (0, 0) 12 μ [(0, .ref (kad k 10 0)), (4, .int v4), (5, .int v5), (6, .int v6), (7, .int v7)] []) (v5 : Int32) (v6 : Int32) (v7 : Int32) (v8 : Int32) (μ : Mm) (e_v0 : kex k 10 0), fX10_thing_L69 F K12 v5 v6 v7 v8 μ = some (r, μ') → Gw z k 10 (k, (0, 0), (some .int), (some (.int r)), μ') (0, 0) 69 μ [(0, .ref (kad k 10 0)), (5, .int v5), (6, .int v6), (7, .int v7), (8, .int v8)] [] := by
    intro K12 HK12 v5 v6 v7 v8 μ e_v0 hf
    unfold fX10_thing_L69 at hf
    refine r_iload hx 4 rfl dX10_thing_69 ?_
    refine r_ifne (tgt := 78) hx rfl dX10_thing_71 (fun q10 => ?_) (fun q10 => ?_)
    · have hf := (f_ite hf).2 q10
      refine r_iload hx 2 rfl dX10_thing_78 ?_
      refine r_ifne (tgt := 86) hx rfl dX10_thing_80 (fun q11 => ?_) (fun q11 => ?_)
      · have hf := (f_ite hf).2 q11
        refine r_iinc (lv' := [(6, .int (v6 + (-1))), (0, .ref (kad k 10 0)), (5, .int v5), (7, .int v7), (8, .int v8)]) hx 2 rfl (congrArg (fun y => v6 + y) ci_m1) (Nat.le_of_ble_eq_true rfl) rfl dX10_thing_86 ?_
        refine r_iload hx 4 rfl dX10_thing_89 ?_
        refine r_ifle (tgt := 100) hx rfl dX10_thing_91 (fun q12 => ?_) (fun q12 => ?_)
        · have hf := (f_ite hf).1 q12
          refine r_iload hx 2 rfl dX10_thing_100 ?_
          refine r_sub [1, 0, 3, 4] rfl ?_
          exact L102 _ HK12  (v6 + (-1)) v7 v8 v5 μ e_v0 hf
        · have hf := (f_ite hf).2 q12
          refine r_iload hx 2 rfl dX10_thing_94 ?_
          refine r_ineg hx dX10_thing_96 ?_
          refine r_goto (tgt := 102) hx rfl dX10_thing_97 ?_
          refine r_sub [1, 0, 3, 4] rfl ?_
          exact L102 _ HK12  (v6 + (-1)) v7 v8 (-v5) μ e_v0 hf
      · have hf := (f_ite hf).1 q11
        refine r_bipush hx cb_100 dX10_thing_83 ?_
        exact r_iret hx hf dX10_thing_85
    · have hf := (f_ite hf).1 q10
      refine r_sipush hx cs_m1000 dX10_thing_74 ?_
      exact r_iret hx hf dX10_thing_77
  have L51 : ∀ (K12 : Int32 → Int32 → Int32 → Int32 → Mm → Option (Int32 × Mm)) (HK12 : ∀ (v4 : Int32) (v5 : Int32) (v6 : Int32) (v7 : Int32) (μ : Mm) (e_v0 : kex k 10 0), K12 v4 v5 v6 v7 μ = some (r, μ') → Gw z k 10 (k, (0, 0), (some .int), (some (.int r)), μ') (0, 0) 12 μ [(0, .ref (kad k 10 0)), (4, .int v4), (5, .int v5), (6, .int v6), (7, .int v7)] []) (v5 : Int32) (v6 : Int32) (v7 : Int32) (v8 : Int32) (s0 : Int32) (μ : Mm) (e_v0 : kex k 10 0), fX10_thing_L51 F K12 v5 v6 v7 v8 s0 μ = some (r, μ') → Gw z k 10 (k, (0, 0), (some .int), (some (.int r)), μ') (0, 0) 51 μ [(0, .ref (kad k 10 0)), (5, .int v5), (6, .int v6), (7, .int v7), (8, .int v8)] [.int s0] := by
    intro K12 HK12 v5 v6 v7 v8 s0 μ e_v0 hf
    unfold fX10_thing_L51 at hf
    refine r_istore (lv' := [(9, .int s0), (0, .ref (kad k 10 0)), (5, .int v5), (6, .int v6), (7, .int v7), (8, .int v8)]) hx (Nat.le_of_ble_eq_true rfl) rfl dX10_thing_51 ?_
    refine r_iload hx 0 rfl dX10_thing_53 ?_
    refine r_ifeq (tgt := 69) hx rfl dX10_thing_55 (fun q9 => ?_) (fun q9 => ?_)
    · have hf := (f_ite hf).1 q9
      refine r_sub [1, 2, 3, 4, 5] rfl ?_
      exact L69 _ HK12  v5 v6 v7 v8 μ e_v0 hf
    · have hf := (f_ite hf).2 q9
      refine r_iload hx 3 rfl dX10_thing_58 ?_
      refine r_ifne (tgt := 66) hx rfl dX10_thing_60 (fun q13 => ?_) (fun q13 => ?_)
      · have hf := (f_ite hf).2 q13
        refine r_iinc (lv' := [(6, .int (v6 + (-1))), (9, .int s0), (0, .ref (kad k 10 0)), (5, .int v5), (7, .int v7), (8, .int v8)]) hx 3 rfl (congrArg (fun y => v6 + y) ci_m1) (Nat.le_of_ble_eq_true rfl) rfl dX10_thing_66 ?_
        refine r_sub [2, 3, 0, 4, 5] rfl ?_
        exact L69 _ HK12  v5 (v6 + (-1)) v7 v8 μ e_v0 hf
      · have hf := (f_ite hf).1 q13
        refine r_iload hx 0 rfl dX10_thing_63 ?_
        exact r_iret hx hf dX10_thing_65
  have L12 : ∀ (n : Nat) (v4 : Int32) (v5 : Int32) (v6 : Int32) (v7 : Int32) (μ : Mm) (e_v0 : kex k 10 0), fX10_thing_L12 F n v4 v5 v6 v7 μ = some (r, μ') → Gw z k 10 (k, (0, 0), (some .int), (some (.int r)), μ') (0, 0) 12 μ [(0, .ref (kad k 10 0)), (4, .int v4), (5, .int v5), (6, .int v6), (7, .int v7)] [] := by
    intro  n
    induction n with
    | zero =>
      intro v4 v5 v6 v7 μ e_v0 hf
      exact f_no (show (none : Option (Int32 × Mm)) = _ from hf)
    | succ n ih =>
      intro v4 v5 v6 v7 μ e_v0 hf
      rw [fX10_thing_L12] at hf
      refine r_iload hx 4 rfl dX10_thing_12 ?_
      refine r_bipush hx cb_100 dX10_thing_14 ?_
      refine r_icgt (tgt := 117) hx rfl dX10_thing_16 (fun q1 => ?_) (fun q1 => ?_)
      · have hf := (f_ite hf).1 q1
        refine r_sipush hx cs_m1000 dX10_thing_117 ?_
        exact r_iret hx hf dX10_thing_120
      · have hf := (f_ite hf).2 q1
        refine r_iload hx 3 rfl dX10_thing_19 ?_
        refine r_iflt (tgt := 117) hx rfl dX10_thing_21 (fun q2 => ?_) (fun q2 => ?_)
        · have hf := (f_ite hf).1 q2
          refine r_sipush hx cs_m1000 dX10_thing_117 ?_
          exact r_iret hx hf dX10_thing_120
        · have hf := (f_ite hf).2 q2
          refine r_aloadn hx 0 rfl rfl dX10_thing_24 ?_
          refine r_iload hx 1 rfl dX10_thing_25 ?_
          refine r_iload hx 2 rfl dX10_thing_27 ?_
          obtain ⟨r5, μ4, c3, hf⟩ := f_bd2 hf
          refine r_callV hx (As := [.int v4, .int v5]) (rest := []) (st1 := [.int r5]) (c := 10) (i := 0) (TT := T10) (N := 2) MK_X10_goalOf rfl wi_X10_goalOf we_X10_goalOf wm_X10_39 ⟨Nat.le_refl _, Nat.le_refl _⟩ (cX10_goalOf hk e_v0 c3) e_v0 (Nat.le_of_ble_eq_true rfl) rfl rfl (Nat.le_of_ble_eq_true rfl) rfl dX10_thing_29 (fun hb6 => ?_)
          refine r_istore (lv' := [(8, .int r5), (0, .ref (kad k 10 0)), (4, .int v4), (5, .int v5), (6, .int v6), (7, .int v7)]) hx (Nat.le_of_ble_eq_true rfl) rfl dX10_thing_32 ?_
          refine r_iload hx 3 rfl dX10_thing_34 ?_
          refine r_ifne (tgt := 43) hx rfl dX10_thing_36 (fun q7 => ?_) (fun q7 => ?_)
          · have hf := (f_ite hf).2 q7
            refine r_iload hx 0 rfl dX10_thing_43 ?_
            refine r_iload hx 2 rfl dX10_thing_45 ?_
            refine r_isub hx dX10_thing_47 ?_
            refine r_iload hx 3 rfl dX10_thing_48 ?_
            obtain ⟨q8, hf⟩ := f_nz hf
            refine r_idiv hx q8 dX10_thing_50 ?_
            refine r_sub [1, 3, 4, 5, 0] rfl ?_
            exact L51 _ ih  v5 v6 v7 r5 ((r5 - v4) / v5) μ4 e_v0 hf
          · have hf := (f_ite hf).1 q7
            refine r_iconst hx ci_0 dX10_thing_39 ?_
            refine r_goto (tgt := 51) hx rfl dX10_thing_40 ?_
            refine r_sub [1, 3, 4, 5, 0] rfl ?_
            exact L51 _ ih  v5 v6 v7 r5 0 μ4 e_v0 hf
  unfold fX10_thing at hf
  refine r_iloadn hx 1 rfl rfl dX10_thing_0 ?_
  refine r_istore (lv' := [(4, .int a1), (0, .ref (kad k 10 0)), (1, .int a1), (2, .int a2), (3, .int a3)]) hx (Nat.le_of_ble_eq_true rfl) rfl dX10_thing_1 ?_
  refine r_iloadn hx 3 rfl rfl dX10_thing_3 ?_
  refine r_istore (lv' := [(5, .int a2), (4, .int a1), (0, .ref (kad k 10 0)), (1, .int a1), (2, .int a2), (3, .int a3)]) hx (Nat.le_of_ble_eq_true rfl) rfl dX10_thing_4 ?_
  refine r_iloadn hx 5 rfl rfl dX10_thing_6 ?_
  refine r_istore (lv' := [(6, .int a3), (5, .int a2), (4, .int a1), (0, .ref (kad k 10 0)), (1, .int a1), (2, .int a2), (3, .int a3)]) hx (Nat.le_of_ble_eq_true rfl) rfl dX10_thing_7 ?_
  refine r_iconst hx ci_0 dX10_thing_9 ?_
  refine r_istore (lv' := [(7, .int 0), (6, .int a3), (5, .int a2), (4, .int a1), (0, .ref (kad k 10 0)), (1, .int a1), (2, .int a2), (3, .int a3)]) hx (Nat.le_of_ble_eq_true rfl) rfl dX10_thing_10 ?_
  refine r_sub [4, 3, 2, 1, 0] rfl ?_
  exact L12 F a1 a2 a3 0 μ e_this hf
