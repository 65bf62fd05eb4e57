/-! the cells that are handed out are there -/
theorem nI_lt8 {x : Int32} {n : Nat} (h : inb x n = true) : x.toNatClampNeg < n := by
  have h1 := inb_in h
  exact Nat.not_le.mp fun q => h1 (Or.inr q)
theorem xX11_squareAt {k : Kx} {F : Nat} {a1 : Int32} {μ μ' : Mm} {i : Nat} (hk : kok k) (e : kex k 11 0) (hf : fX11_squareAt F a1 μ = some (some i, μ')) : kex k 5 i := by
  unfold fX11_squareAt at hf
  by_cases q : a1 < 0
  · rw [if_pos q] at hf; cases hf
  · rw [if_neg q] at hf
    by_cases q2 : (gi μ 8 (tx (gi μ 11 0 2)) 0) ≤ a1
    · rw [if_pos q2] at hf; cases hf
    · rw [if_neg q2] at hf
      obtain ⟨b, hf⟩ := f_chk hf
      cases hf
      have h1 := hk.2.2.2.1 11 0 4 rfl e
      have h2 := hk.2.2.2.1 0 0 0 rfl h1
      exact hk.2.2.2.2.1 20 0 a1.toNatClampNeg (by decide) (nI_lt8 b) h2
theorem xText {k : Kx} {a : Int32} (hk : kok k) (e : kex k 11 0) : kex k 8 (tx a) := by
  have := hk.2.2.2.2.2.1 11 0 e (Or.inl rfl)
  unfold tx
  split
  · exact this.1
  · exact this.2
theorem xX11_figureAt {k : Kx} {F : Nat} {a1 : Int32} {μ μ' : Mm} {i : Nat} (hk : kok k) (e : kex k 11 0) (hf : fX11_figureAt F a1 μ = some (some i, μ')) : kex k 3 i := by
  unfold fX11_figureAt at hf
  by_cases q : a1 < 0
  · rw [if_pos q] at hf; cases hf
  · rw [if_neg q] at hf
    by_cases q2 : (gi μ 8 (tx (gi μ 11 0 2)) 1) ≤ a1
    · rw [if_pos q2] at hf; cases hf
    · rw [if_neg q2] at hf
      obtain ⟨b, hf⟩ := f_chk hf
      cases hf
      have h2 := hk.2.2.2.1 8 _ 4 rfl (xText (a := gi μ 11 0 2) hk e)
      exact hk.2.2.2.2.1 35 _ a1.toNatClampNeg (by decide) (nI_lt8 b) h2
theorem xX8_nextSquare {k : Kx} {F t : Nat} {μ μ' : Mm} {i : Nat} (hk : kok k) (e : kex k 8 t) (hf : fX8_nextSquare F t μ = some (some i, μ')) : kex k 3 i := by
  unfold fX8_nextSquare at hf
  by_cases q : gi μ 8 t 0 < 4
  · rw [if_pos q] at hf
    obtain ⟨b, hf⟩ := f_chk hf
    obtain ⟨μ1, c, hf⟩ := f_bd1 hf
    cases hf
    exact hk.2.2.2.2.1 34 t (gi μ 8 t 0).toNatClampNeg (by decide) (nI_lt8 b) (hk.2.2.2.1 8 t 3 rfl e)
  · rw [if_neg q] at hf; cases hf
theorem xX8_nextFigure {k : Kx} {F t : Nat} {μ μ' : Mm} {i : Nat} (hk : kok k) (e : kex k 8 t) (hf : fX8_nextFigure F t μ = some (some i, μ')) : kex k 3 i := by
  unfold fX8_nextFigure at hf
  by_cases q : gi μ 8 t 1 < 5
  · rw [if_pos q] at hf
    obtain ⟨b, hf⟩ := f_chk hf
    obtain ⟨μ1, c, hf⟩ := f_bd1 hf
    cases hf
    exact hk.2.2.2.2.1 35 t (gi μ 8 t 1).toNatClampNeg (by decide) (nI_lt8 b) (hk.2.2.2.1 8 t 4 rfl e)
  · rw [if_neg q] at hf; cases hf

theorem dX5_letGo_0 : decode bX5_letGo 0 = .ok (.aload_n 0, 1) := by decide +kernel
theorem dX5_letGo_1 : decode bX5_letGo 1 = .ok (.iconst 0, 1) := by decide +kernel
theorem dX5_letGo_2 : decode bX5_letGo 2 = .ok (.putfield 23, 3) := by decide +kernel
theorem dX5_letGo_5 : decode bX5_letGo 5 = .ok (.aload_n 0, 1) := by decide +kernel
theorem dX5_letGo_6 : decode bX5_letGo 6 = .ok (.iconst 1, 1) := by decide +kernel
theorem dX5_letGo_7 : decode bX5_letGo 7 = .ok (.putfield 7, 3) := by decide +kernel
theorem dX5_letGo_10 : decode bX5_letGo 10 = .ok (.return_, 1) := by decide +kernel
set_option maxRecDepth 20000 in
set_option maxHeartbeats 4000000 in
theorem cX5_letGo {l : Launch} {k : Kx} {F : Nat} {this : Nat} {μ μ' : Mm} (hk : kok k) (e_this : kex k 5 this) (hf : fX5_letGo F this μ = some μ') : MM l k 0 yX5_letGo bX5_letGo 1 none [.ref (kad k 5 this)] μ none μ' := by
  refine MM.of (lv := [(0, .ref (kad k 5 this))]) (plainFor_of_name (by decide)) hk (Nat.le_of_ble_eq_true rfl) rfl (fun z hl hx => ?_)
  subst hl
  have hx : Ok z k bX5_letGo 1 "RopeDance$Square" none 0 (0, 0) := hx
  unfold fX5_letGo at hf
  refine r_aloadn hx 0 rfl rfl dX5_letGo_0 ?_
  refine r_iconst hx ci_0 dX5_letGo_1 ?_
  refine r_putI (ty := .int) hx FK5_0 (fun T N h => by cases h; rfl) e_this wf_X5_23 (by decide +kernel) rfl rfl dX5_letGo_2 ?_
  refine r_aloadn hx 0 rfl rfl dX5_letGo_5 ?_
  refine r_iconst hx ci_1 dX5_letGo_6 ?_
  refine r_putI (ty := .int) hx FK5_1 (fun T N h => by cases h; rfl) e_this wf_X5_7 (by decide +kernel) rfl rfl dX5_letGo_7 ?_
  exact r_vret hx hf dX5_letGo_10
theorem dX5_turn_0 : decode bX5_turn 0 = .ok (.aload_n 0, 1) := by decide +kernel
theorem dX5_turn_1 : decode bX5_turn 1 = .ok (.getfield 23, 3) := by decide +kernel
theorem dX5_turn_4 : decode bX5_turn 4 = .ok (.istore_n 1, 1) := by decide +kernel
theorem dX5_turn_5 : decode bX5_turn 5 = .ok (.iload_n 1, 1) := by decide +kernel
theorem dX5_turn_6 : decode bX5_turn 6 = .ok (.ifCond .ge 20, 3) := by decide +kernel
theorem dX5_turn_9 : decode bX5_turn 9 = .ok (.aload_n 0, 1) := by decide +kernel
theorem dX5_turn_10 : decode bX5_turn 10 = .ok (.aload_n 0, 1) := by decide +kernel
theorem dX5_turn_11 : decode bX5_turn 11 = .ok (.getfield 7, 3) := by decide +kernel
theorem dX5_turn_14 : decode bX5_turn 14 = .ok (.putfield 23, 3) := by decide +kernel
theorem dX5_turn_17 : decode bX5_turn 17 = .ok (.aload_n 0, 1) := by decide +kernel
theorem dX5_turn_18 : decode bX5_turn 18 = .ok (.iload_n 1, 1) := by decide +kernel
theorem dX5_turn_19 : decode bX5_turn 19 = .ok (.ineg, 1) := by decide +kernel
theorem dX5_turn_20 : decode bX5_turn 20 = .ok (.putfield 7, 3) := by decide +kernel
theorem dX5_turn_23 : decode bX5_turn 23 = .ok (.goto 34, 3) := by decide +kernel
theorem dX5_turn_26 : decode bX5_turn 26 = .ok (.iload_n 1, 1) := by decide +kernel
theorem dX5_turn_27 : decode bX5_turn 27 = .ok (.ifCond .le 20, 3) := by decide +kernel
theorem dX5_turn_30 : decode bX5_turn 30 = .ok (.aload_n 0, 1) := by decide +kernel
theorem dX5_turn_31 : decode bX5_turn 31 = .ok (.aload_n 0, 1) := by decide +kernel
theorem dX5_turn_32 : decode bX5_turn 32 = .ok (.getfield 7, 3) := by decide +kernel
theorem dX5_turn_35 : decode bX5_turn 35 = .ok (.ineg, 1) := by decide +kernel
theorem dX5_turn_36 : decode bX5_turn 36 = .ok (.putfield 23, 3) := by decide +kernel
theorem dX5_turn_39 : decode bX5_turn 39 = .ok (.aload_n 0, 1) := by decide +kernel
theorem dX5_turn_40 : decode bX5_turn 40 = .ok (.iload_n 1, 1) := by decide +kernel
theorem dX5_turn_41 : decode bX5_turn 41 = .ok (.putfield 7, 3) := by decide +kernel
theorem dX5_turn_44 : decode bX5_turn 44 = .ok (.goto 13, 3) := by decide +kernel
theorem dX5_turn_47 : decode bX5_turn 47 = .ok (.aload_n 0, 1) := by decide +kernel
theorem dX5_turn_48 : decode bX5_turn 48 = .ok (.iconst 1, 1) := by decide +kernel
theorem dX5_turn_49 : decode bX5_turn 49 = .ok (.putfield 23, 3) := by decide +kernel
theorem dX5_turn_52 : decode bX5_turn 52 = .ok (.aload_n 0, 1) := by decide +kernel
theorem dX5_turn_53 : decode bX5_turn 53 = .ok (.iconst 0, 1) := by decide +kernel
theorem dX5_turn_54 : decode bX5_turn 54 = .ok (.putfield 7, 3) := by decide +kernel
theorem dX5_turn_57 : decode bX5_turn 57 = .ok (.return_, 1) := by decide +kernel
set_option maxRecDepth 20000 in
set_option maxHeartbeats 4000000 in
theorem cX5_turn {l : Launch} {k : Kx} {F : Nat} {this : Nat} {μ μ' : Mm} (hk : kok k) (e_this : kex k 5 this) (hf : fX5_turn F this μ = some μ') : MM l k 0 yX5_turn bX5_turn 2 none [.ref (kad k 5 this)] μ none μ' := by
  refine MM.of (lv := [(0, .ref (kad k 5 this))]) (plainFor_of_name (by decide)) hk (Nat.le_of_ble_eq_true rfl) rfl (fun z hl hx => ?_)
  subst hl
  have hx : Ok z k bX5_turn 2 "RopeDance$Square" none 0 (0, 0) := hx
  unfold fX5_turn at hf
  refine r_aloadn hx 0 rfl rfl dX5_turn_0 ?_
  refine r_getI hx FK5_0 e_this wf_X5_23 dX5_turn_1 ?_
  refine r_istoren (lv' := [(1, .int (gi μ 5 this 0)), (0, .ref (kad k 5 this))]) hx rfl (Nat.le_of_ble_eq_true rfl) rfl dX5_turn_4 ?_
  refine r_iloadn hx 0 rfl rfl dX5_turn_5 ?_
  refine r_ifge (tgt := 26) hx rfl dX5_turn_6 (fun q1 => ?_) (fun q1 => ?_)
  · have hf := (f_ite hf).1 q1
    refine r_iloadn hx 0 rfl rfl dX5_turn_26 ?_
    refine r_ifle (tgt := 47) hx rfl dX5_turn_27 (fun q2 => ?_) (fun q2 => ?_)
    · have hf := (f_ite hf).1 q2
      refine r_aloadn hx 1 rfl rfl dX5_turn_47 ?_
      refine r_iconst hx ci_1 dX5_turn_48 ?_
      refine r_putI (ty := .int) hx FK5_0 (fun T N h => by cases h; rfl) e_this wf_X5_23 (by decide +kernel) rfl rfl dX5_turn_49 ?_
      refine r_aloadn hx 1 rfl rfl dX5_turn_52 ?_
      refine r_iconst hx ci_0 dX5_turn_53 ?_
      refine r_putI (ty := .int) hx FK5_1 (fun T N h => by cases h; rfl) e_this wf_X5_7 (by decide +kernel) rfl rfl dX5_turn_54 ?_
      exact r_vret hx hf dX5_turn_57
    · have hf := (f_ite hf).2 q2
      refine r_aloadn hx 1 rfl rfl dX5_turn_30 ?_
      refine r_aloadn hx 1 rfl rfl dX5_turn_31 ?_
      refine r_getI hx FK5_1 e_this wf_X5_7 dX5_turn_32 ?_
      refine r_ineg hx dX5_turn_35 ?_
      refine r_putI (ty := .int) hx FK5_0 (fun T N h => by cases h; rfl) e_this wf_X5_23 (by decide +kernel) rfl rfl dX5_turn_36 ?_
      refine r_aloadn hx 1 rfl rfl dX5_turn_39 ?_
      refine r_iloadn hx 0 rfl rfl dX5_turn_40 ?_
      refine r_putI (ty := .int) hx FK5_1 (fun T N h => by cases h; rfl) e_this wf_X5_7 (by decide +kernel) rfl rfl dX5_turn_41 ?_
      refine r_goto (tgt := 57) hx rfl dX5_turn_44 ?_
      exact r_vret hx hf dX5_turn_57
  · have hf := (f_ite hf).2 q1
    refine r_aloadn hx 1 rfl rfl dX5_turn_9 ?_
    refine r_aloadn hx 1 rfl rfl dX5_turn_10 ?_
    refine r_getI hx FK5_1 e_this wf_X5_7 dX5_turn_11 ?_
    refine r_putI (ty := .int) hx FK5_0 (fun T N h => by cases h; rfl) e_this wf_X5_23 (by decide +kernel) rfl rfl dX5_turn_14 ?_
    refine r_aloadn hx 1 rfl rfl dX5_turn_17 ?_
    refine r_iloadn hx 0 rfl rfl dX5_turn_18 ?_
    refine r_ineg hx dX5_turn_19 ?_
    refine r_putI (ty := .int) hx FK5_1 (fun T N h => by cases h; rfl) e_this wf_X5_7 (by decide +kernel) rfl rfl dX5_turn_20 ?_
    refine r_goto (tgt := 57) hx rfl dX5_turn_23 ?_
    exact r_vret hx hf dX5_turn_57
theorem dX5_isTangle_0 : decode bX5_isTangle 0 = .ok (.iload_n 0, 1) := by decide +kernel
theorem dX5_isTangle_1 : decode bX5_isTangle 1 = .ok (.bipush (-99), 2) := by decide +kernel
theorem dX5_isTangle_3 : decode bX5_isTangle 3 = .ok (.if_icmp .lt 13, 3) := by decide +kernel
theorem dX5_isTangle_6 : decode bX5_isTangle 6 = .ok (.iload_n 0, 1) := by decide +kernel
theorem dX5_isTangle_7 : decode bX5_isTangle 7 = .ok (.bipush 99, 2) := by decide +kernel
theorem dX5_isTangle_9 : decode bX5_isTangle 9 = .ok (.if_icmp .gt 7, 3) := by decide +kernel
theorem dX5_isTangle_12 : decode bX5_isTangle 12 = .ok (.iconst 1, 1) := by decide +kernel
theorem dX5_isTangle_13 : decode bX5_isTangle 13 = .ok (.goto 4, 3) := by decide +kernel
theorem dX5_isTangle_16 : decode bX5_isTangle 16 = .ok (.iconst 0, 1) := by decide +kernel
theorem dX5_isTangle_17 : decode bX5_isTangle 17 = .ok (.ireturn, 1) := by decide +kernel
set_option maxRecDepth 20000 in
set_option maxHeartbeats 4000000 in
theorem cX5_isTangle {l : Launch} {k : Kx} {F : Nat} {a0 : Int32} {μ μ' : Mm} {r : Int32} (hk : kok k) (hf : fX5_isTangle F a0 μ = some (r, μ')) : MM l k 0 yX5_isTangle bX5_isTangle 1 (some .boolean) [.int a0] μ (some (.int r)) μ' := by
  refine MM.of (lv := [(0, .int a0)]) (plainFor_of_name (by decide)) hk (Nat.le_of_ble_eq_true rfl) rfl (fun z hl hx => ?_)
  subst hl
  have hx : Ok z k bX5_isTangle 1 "RopeDance$Square" (some .boolean) 0 (0, 0) := hx
  unfold fX5_isTangle at hf
  refine r_iloadn hx 0 rfl rfl dX5_isTangle_0 ?_
  refine r_bipush hx cb_m99 dX5_isTangle_1 ?_
  refine r_iclt (tgt := 16) hx rfl dX5_isTangle_3 (fun q1 => ?_) (fun q1 => ?_)
  · have hf := (f_ite hf).1 q1
    refine r_iconst hx ci_0 dX5_isTangle_16 ?_
    exact r_zret hx hf rfl dX5_isTangle_17
  · have hf := (f_ite hf).2 q1
    refine r_iloadn hx 0 rfl rfl dX5_isTangle_6 ?_
    refine r_bipush hx cb_99 dX5_isTangle_7 ?_
    refine r_icgt (tgt := 16) hx rfl dX5_isTangle_9 (fun q2 => ?_) (fun q2 => ?_)
    · have hf := (f_ite hf).1 q2
      refine r_iconst hx ci_0 dX5_isTangle_16 ?_
      exact r_zret hx hf rfl dX5_isTangle_17
    · have hf := (f_ite hf).2 q2
      refine r_iconst hx ci_1 dX5_isTangle_12 ?_
      refine r_goto (tgt := 17) hx rfl dX5_isTangle_13 ?_
      exact r_zret hx hf rfl dX5_isTangle_17
theorem dX5_makes_0 : decode bX5_makes 0 = .ok (.iload_n 1, 1) := by decide +kernel
theorem dX5_makes_1 : decode bX5_makes 1 = .ok (.iconst 2, 1) := by decide +kernel
theorem dX5_makes_2 : decode bX5_makes 2 = .ok (.if_icmp .ne 9, 3) := by decide +kernel
theorem dX5_makes_5 : decode bX5_makes 5 = .ok (.aload_n 0, 1) := by decide +kernel
theorem dX5_makes_6 : decode bX5_makes 6 = .ok (.invokevirtual 28, 3) := by decide +kernel
theorem dX5_makes_9 : decode bX5_makes 9 = .ok (.iconst 1, 1) := by decide +kernel
theorem dX5_makes_10 : decode bX5_makes 10 = .ok (.ireturn, 1) := by decide +kernel
theorem dX5_makes_11 : decode bX5_makes 11 = .ok (.iload_n 1, 1) := by decide +kernel
theorem dX5_makes_12 : decode bX5_makes 12 = .ok (.ifCond .ne 17, 3) := by decide +kernel
theorem dX5_makes_15 : decode bX5_makes 15 = .ok (.aload_n 0, 1) := by decide +kernel
theorem dX5_makes_16 : decode bX5_makes 16 = .ok (.getfield 23, 3) := by decide +kernel
theorem dX5_makes_19 : decode bX5_makes 19 = .ok (.iload_n 2, 1) := by decide +kernel
theorem dX5_makes_20 : decode bX5_makes 20 = .ok (.aload_n 0, 1) := by decide +kernel
theorem dX5_makes_21 : decode bX5_makes 21 = .ok (.getfield 7, 3) := by decide +kernel
theorem dX5_makes_24 : decode bX5_makes 24 = .ok (.imul, 1) := by decide +kernel
theorem dX5_makes_25 : decode bX5_makes 25 = .ok (.iadd, 1) := by decide +kernel
theorem dX5_makes_26 : decode bX5_makes 26 = .ok (.goto 14, 3) := by decide +kernel
theorem dX5_makes_29 : decode bX5_makes 29 = .ok (.aload_n 0, 1) := by decide +kernel
theorem dX5_makes_30 : decode bX5_makes 30 = .ok (.getfield 23, 3) := by decide +kernel
theorem dX5_makes_33 : decode bX5_makes 33 = .ok (.iload_n 2, 1) := by decide +kernel
theorem dX5_makes_34 : decode bX5_makes 34 = .ok (.aload_n 0, 1) := by decide +kernel
theorem dX5_makes_35 : decode bX5_makes 35 = .ok (.getfield 7, 3) := by decide +kernel
theorem dX5_makes_38 : decode bX5_makes 38 = .ok (.imul, 1) := by decide +kernel
theorem dX5_makes_39 : decode bX5_makes 39 = .ok (.isub, 1) := by decide +kernel
theorem dX5_makes_40 : decode bX5_makes 40 = .ok (.istore_n 3, 1) := by decide +kernel
theorem dX5_makes_41 : decode bX5_makes 41 = .ok (.iload_n 3, 1) := by decide +kernel
theorem dX5_makes_42 : decode bX5_makes 42 = .ok (.invokestatic 31, 3) := by decide +kernel
theorem dX5_makes_45 : decode bX5_makes 45 = .ok (.ifCond .ne 5, 3) := by decide +kernel
theorem dX5_makes_48 : decode bX5_makes 48 = .ok (.iconst 0, 1) := by decide +kernel
theorem dX5_makes_49 : decode bX5_makes 49 = .ok (.ireturn, 1) := by decide +kernel
theorem dX5_makes_50 : decode bX5_makes 50 = .ok (.aload_n 0, 1) := by decide +kernel
theorem dX5_makes_51 : decode bX5_makes 51 = .ok (.iload_n 3, 1) := by decide +kernel
theorem dX5_makes_52 : decode bX5_makes 52 = .ok (.putfield 23, 3) := by decide +kernel
theorem dX5_makes_55 : decode bX5_makes 55 = .ok (.iconst 1, 1) := by decide +kernel
theorem dX5_makes_56 : decode bX5_makes 56 = .ok (.ireturn, 1) := by decide +kernel
set_option maxRecDepth 20000 in
set_option maxHeartbeats 4000000 in
theorem cX5_makes {l : Launch} {k : Kx} {F : Nat} {this : Nat} {a1 : Int32} {a2 : Int32} {μ μ' : Mm} {r : Int32} (hk : kok k) (e_this : kex k 5 this) (hf : fX5_makes F this a1 a2 μ = some (r, μ')) : MM l k 1 yX5_makes bX5_makes 4 (some .boolean) [.ref (kad k 5 this), .int a1, .int a2] μ (some (.int r)) μ' := by
  refine MM.of (lv := [(0, .ref (kad k 5 this)), (1, .int a1), (2, .int a2)]) (plainFor_of_name (by decide)) hk (Nat.le_of_ble_eq_true rfl) rfl (fun z hl hx => ?_)
  subst hl
  have hx : Ok z k bX5_makes 4 "RopeDance$Square" (some .boolean) 1 (0, 0) := hx
  have L40 : ∀ (v0 : Nat) (s0 : Int32) (μ : Mm) (e_v0 : kex k 5 v0), fX5_makes_L40 F v0 s0 μ = some (r, μ') → Gw z k 4 (k, (0, 0), (some .boolean), (some (.int r)), μ') (0, 0) 40 μ [(0, .ref (kad k 5 v0))] [.int s0] := by
    intro  v0 s0 μ e_v0 hf
    unfold fX5_makes_L40 at hf
    refine r_istoren (lv' := [(3, .int s0), (0, .ref (kad k 5 v0))]) hx rfl (Nat.le_of_ble_eq_true rfl) rfl dX5_makes_40 ?_
    refine r_iloadn hx 0 rfl rfl dX5_makes_41 ?_
    obtain ⟨r5, μ4, c3, hf⟩ := f_bd2 hf
    refine r_callS hx (As := [.int s0]) (rest := []) (st1 := [.int r5]) MK_X5_isTangle ws_X5_isTangle wm_X5_31 ⟨Nat.le_refl _, Nat.le_refl _⟩ (cX5_isTangle hk c3) (Nat.le_of_ble_eq_true rfl) rfl rfl (Nat.le_of_ble_eq_true rfl) rfl dX5_makes_42 (fun hb6 => ?_)
    refine r_ifne (tgt := 50) hx rfl dX5_makes_45 (fun q7 => ?_) (fun q7 => ?_)
    · have hf := (f_ite hf).2 q7
      refine r_aloadn hx 1 rfl rfl dX5_makes_50 ?_
      refine r_iloadn hx 0 rfl rfl dX5_makes_51 ?_
      refine r_putI (ty := .int) hx FK5_0 (fun T N h => by cases h; rfl) e_v0 wf_X5_23 (by decide +kernel) rfl rfl dX5_makes_52 ?_
      refine r_iconst hx ci_1 dX5_makes_55 ?_
      exact r_zret hx hf rfl dX5_makes_56
    · have hf := (f_ite hf).1 q7
      refine r_iconst hx ci_0 dX5_makes_48 ?_
      exact r_zret hx hf rfl dX5_makes_49
  unfold fX5_makes at hf
  refine r_iloadn hx 1 rfl rfl dX5_makes_0 ?_
  refine r_iconst hx ci_2 dX5_makes_1 ?_
  refine r_icne (tgt := 11) hx rfl dX5_makes_2 (fun q1 => ?_) (fun q1 => ?_)
  · have hf := (f_ite hf).2 q1
    refine r_iloadn hx 1 rfl rfl dX5_makes_11 ?_
    refine r_ifne (tgt := 29) hx rfl dX5_makes_12 (fun q2 => ?_) (fun q2 => ?_)
    · have hf := (f_ite hf).2 q2
      refine r_aloadn hx 0 rfl rfl dX5_makes_29 ?_
      refine r_getI hx FK5_0 e_this wf_X5_23 dX5_makes_30 ?_
      refine r_iloadn hx 2 rfl rfl dX5_makes_33 ?_
      refine r_aloadn hx 0 rfl rfl dX5_makes_34 ?_
      refine r_getI hx FK5_1 e_this wf_X5_7 dX5_makes_35 ?_
      refine r_imul hx dX5_makes_38 ?_
      refine r_isub hx dX5_makes_39 ?_
      refine r_sub [0] rfl ?_
      exact L40  this ((gi μ 5 this 0) - (a2 * (gi μ 5 this 1))) μ e_this hf
    · have hf := (f_ite hf).1 q2
      refine r_aloadn hx 0 rfl rfl dX5_makes_15 ?_
      refine r_getI hx FK5_0 e_this wf_X5_23 dX5_makes_16 ?_
      refine r_iloadn hx 2 rfl rfl dX5_makes_19 ?_
      refine r_aloadn hx 0 rfl rfl dX5_makes_20 ?_
      refine r_getI hx FK5_1 e_this wf_X5_7 dX5_makes_21 ?_
      refine r_imul hx dX5_makes_24 ?_
      refine r_iadd hx dX5_makes_25 ?_
      refine r_goto (tgt := 40) hx rfl dX5_makes_26 ?_
      refine r_sub [0] rfl ?_
      exact L40  this ((gi μ 5 this 0) + (a2 * (gi μ 5 this 1))) μ e_this hf
  · have hf := (f_ite hf).1 q1
    refine r_aloadn hx 0 rfl rfl dX5_makes_5 ?_
    obtain ⟨μ9, c8, hf⟩ := f_bd1 hf
    refine r_callV hx (As := []) (rest := []) (st1 := []) (c := 5) (i := this) (TT := T5) (N := 4) MK_X5_turn rfl wi_X5_turn we_X5_turn wm_X5_28 ⟨Nat.le_refl _, Nat.le_refl _⟩ (cX5_turn hk e_this c8) e_this (Nat.le_of_ble_eq_true rfl) rfl rfl (Nat.le_of_ble_eq_true rfl) rfl dX5_makes_6 (fun hb10 => ?_)
    refine r_iconst hx ci_1 dX5_makes_9 ?_
    exact r_zret hx hf rfl dX5_makes_10
theorem dX3_makes_0 : decode bX3_makes 0 = .ok (.iload_n 2, 1) := by decide +kernel
theorem dX3_makes_1 : decode bX3_makes 1 = .ok (.aload_n 0, 1) := by decide +kernel
theorem dX3_makes_2 : decode bX3_makes 2 = .ok (.getfield 23, 3) := by decide +kernel
theorem dX3_makes_5 : decode bX3_makes 5 = .ok (.invokestatic 38, 3) := by decide +kernel
theorem dX3_makes_8 : decode bX3_makes 8 = .ok (.istore_n 3, 1) := by decide +kernel
theorem dX3_makes_9 : decode bX3_makes 9 = .ok (.iconst 0, 1) := by decide +kernel
theorem dX3_makes_10 : decode bX3_makes 10 = .ok (.istore 4, 2) := by decide +kernel
theorem dX3_makes_12 : decode bX3_makes 12 = .ok (.iload 4, 2) := by decide +kernel
theorem dX3_makes_14 : decode bX3_makes 14 = .ok (.iload_n 3, 1) := by decide +kernel
theorem dX3_makes_15 : decode bX3_makes 15 = .ok (.if_icmp .ge 32, 3) := by decide +kernel
theorem dX3_makes_18 : decode bX3_makes 18 = .ok (.aload_n 1, 1) := by decide +kernel
theorem dX3_makes_19 : decode bX3_makes 19 = .ok (.aload_n 0, 1) := by decide +kernel
theorem dX3_makes_20 : decode bX3_makes 20 = .ok (.getfield 16, 3) := by decide +kernel
theorem dX3_makes_23 : decode bX3_makes 23 = .ok (.iload 4, 2) := by decide +kernel
theorem dX3_makes_25 : decode bX3_makes 25 = .ok (.iaload, 1) := by decide +kernel
theorem dX3_makes_26 : decode bX3_makes 26 = .ok (.aload_n 0, 1) := by decide +kernel
theorem dX3_makes_27 : decode bX3_makes 27 = .ok (.getfield 20, 3) := by decide +kernel
theorem dX3_makes_30 : decode bX3_makes 30 = .ok (.iload 4, 2) := by decide +kernel
theorem dX3_makes_32 : decode bX3_makes 32 = .ok (.iaload, 1) := by decide +kernel
theorem dX3_makes_33 : decode bX3_makes 33 = .ok (.invokevirtual 44, 3) := by decide +kernel
theorem dX3_makes_36 : decode bX3_makes 36 = .ok (.ifCond .ne 5, 3) := by decide +kernel
theorem dX3_makes_39 : decode bX3_makes 39 = .ok (.iconst 0, 1) := by decide +kernel
theorem dX3_makes_40 : decode bX3_makes 40 = .ok (.ireturn, 1) := by decide +kernel
theorem dX3_makes_41 : decode bX3_makes 41 = .ok (.iinc 4 1, 3) := by decide +kernel
theorem dX3_makes_44 : decode bX3_makes 44 = .ok (.goto (-32), 3) := by decide +kernel
theorem dX3_makes_47 : decode bX3_makes 47 = .ok (.iconst 1, 1) := by decide +kernel
theorem dX3_makes_48 : decode bX3_makes 48 = .ok (.ireturn, 1) := by decide +kernel
set_option maxRecDepth 20000 in
set_option maxHeartbeats 4000000 in
theorem cX3_makes {l : Launch} {k : Kx} {F : Nat} {this : Nat} {a1 : Nat} {a2 : Int32} {μ μ' : Mm} {r : Int32} (hk : kok k) (e_this : kex k 3 this) (e_a1 : kex k 5 a1) (hf : fX3_makes F this a1 a2 μ = some (r, μ')) : MM l k 2 yX3_makes bX3_makes 5 (some .boolean) [.ref (kad k 3 this), .ref (kad k 5 a1), .int a2] μ (some (.int r)) μ' := by
  refine MM.of (lv := [(0, .ref (kad k 3 this)), (1, .ref (kad k 5 a1)), (2, .int a2)]) (plainFor_of_name (by decide)) hk (Nat.le_of_ble_eq_true rfl) rfl (fun z hl hx => ?_)
  subst hl
  have hx : Ok z k bX3_makes 5 "RopeDance$Row" (some .boolean) 2 (0, 0) := hx
  have L12 : ∀ (n : Nat) (v0 : Nat) (v1 : Nat) (v3 : Int32) (v4 : Int32) (μ : Mm) (e_v0 : kex k 3 v0) (e_v1 : kex k 5 v1), fX3_makes_L12 F n v0 v1 v3 v4 μ = some (r, μ') → Gw z k 5 (k, (0, 0), (some .boolean), (some (.int r)), μ') (0, 0) 12 μ [(0, .ref (kad k 3 v0)), (1, .ref (kad k 5 v1)), (3, .int v3), (4, .int v4)] [] := by
    intro  n
    induction n with
    | zero =>
      intro v0 v1 v3 v4 μ e_v0 e_v1 hf
      exact f_no (show (none : Option (Int32 × Mm)) = _ from hf)
    | succ n ih =>
      intro v0 v1 v3 v4 μ e_v0 e_v1 hf
      rw [fX3_makes_L12] at hf
      refine r_iload hx 3 rfl dX3_makes_12 ?_
      refine r_iloadn hx 2 rfl rfl dX3_makes_14 ?_
      refine r_icge (tgt := 47) hx rfl dX3_makes_15 (fun q1 => ?_) (fun q1 => ?_)
      · have hf := (f_ite hf).1 q1
        refine r_iconst hx ci_1 dX3_makes_47 ?_
        exact r_zret hx hf rfl dX3_makes_48
      · have hf := (f_ite hf).2 q1
        refine r_aloadn hx 1 rfl rfl dX3_makes_18 ?_
        refine r_aloadn hx 0 rfl rfl dX3_makes_19 ?_
        refine r_getR hx (c' := 25) (i' := v0) FK3_2 e_v0 rfl wf_X3_16 dX3_makes_20 (fun e2 => ?_)
        refine r_iload hx 3 rfl dX3_makes_23 ?_
        obtain ⟨b3, hf⟩ := f_chk hf
        refine r_iald hx (by decide) rfl e2 b3 rfl dX3_makes_25 ?_
        refine r_aloadn hx 0 rfl rfl dX3_makes_26 ?_
        refine r_getR hx (c' := 26) (i' := v0) FK3_3 e_v0 rfl wf_X3_20 dX3_makes_27 (fun e4 => ?_)
        refine r_iload hx 3 rfl dX3_makes_30 ?_
        refine r_iald hx (by decide) rfl e4 b3 rfl dX3_makes_32 ?_
        obtain ⟨r7, μ6, c5, hf⟩ := f_bd2 hf
        refine r_callV hx (As := [.int (gi μ 25 v0 v4.toNatClampNeg), .int (gi μ 26 v0 v4.toNatClampNeg)]) (rest := []) (st1 := [.int r7]) (c := 5) (i := v1) (TT := T5) (N := 4) MK_X5_makes rfl wi_X5_makes we_X5_makes wm_X3_44 ⟨Nat.le_refl _, Nat.le_refl _⟩ (cX5_makes hk e_v1 c5) e_v1 (Nat.le_of_ble_eq_true rfl) rfl rfl (Nat.le_of_ble_eq_true rfl) rfl dX3_makes_33 (fun hb8 => ?_)
        refine r_ifne (tgt := 41) hx rfl dX3_makes_36 (fun q9 => ?_) (fun q9 => ?_)
        · have hf := (f_ite hf).2 q9
          refine r_iinc (lv' := [(4, .int (v4 + 1)), (0, .ref (kad k 3 v0)), (1, .ref (kad k 5 v1)), (3, .int v3)]) hx 3 rfl (congrArg (fun y => v4 + y) ci_1) (Nat.le_of_ble_eq_true rfl) rfl dX3_makes_41 ?_
          refine r_goto (tgt := 12) hx rfl dX3_makes_44 ?_
          refine r_sub [1, 2, 3, 0] rfl ?_
          exact ih v0 v1 v3 (v4 + 1) μ6 e_v0 e_v1 hf
        · have hf := (f_ite hf).1 q9
          refine r_iconst hx ci_0 dX3_makes_39 ?_
          exact r_zret hx hf rfl dX3_makes_40
  unfold fX3_makes at hf
  refine r_iloadn hx 2 rfl rfl dX3_makes_0 ?_
  refine r_aloadn hx 0 rfl rfl dX3_makes_1 ?_
  refine r_getI hx FK3_0 e_this wf_X3_23 dX3_makes_2 ?_
  refine r_mmin hx wm_X3_38 xws_min xwm xwk_min ⟨Nat.le_refl _, Nat.le_refl _⟩ (Nat.le_of_ble_eq_true rfl) (Nat.le_of_ble_eq_true rfl) dX3_makes_5 ?_
  refine r_istoren (lv' := [(3, .int (mn a2 (gi μ 3 this 0))), (0, .ref (kad k 3 this)), (1, .ref (kad k 5 a1)), (2, .int a2)]) hx rfl (Nat.le_of_ble_eq_true rfl) rfl dX3_makes_8 ?_
  refine r_iconst hx ci_0 dX3_makes_9 ?_
  refine r_istore (lv' := [(4, .int 0), (3, .int (mn a2 (gi μ 3 this 0))), (0, .ref (kad k 3 this)), (1, .ref (kad k 5 a1)), (2, .int a2)]) hx (Nat.le_of_ble_eq_true rfl) rfl dX3_makes_10 ?_
  refine r_sub [2, 3, 1, 0] rfl ?_
  exact L12 F this a1 (mn a2 (gi μ 3 this 0)) 0 μ e_this e_a1 hf
theorem dX0_begin_0 : decode bX0_begin 0 = .ok (.aload_n 0, 1) := by decide +kernel
theorem dX0_begin_1 : decode bX0_begin 1 = .ok (.iconst 0, 1) := by decide +kernel
theorem dX0_begin_2 : decode bX0_begin 2 = .ok (.putfield 18, 3) := by decide +kernel
theorem dX0_begin_5 : decode bX0_begin 5 = .ok (.aload_n 0, 1) := by decide +kernel
theorem dX0_begin_6 : decode bX0_begin 6 = .ok (.iconst 0, 1) := by decide +kernel
theorem dX0_begin_7 : decode bX0_begin 7 = .ok (.putfield 22, 3) := by decide +kernel
theorem dX0_begin_10 : decode bX0_begin 10 = .ok (.iconst 0, 1) := by decide +kernel
theorem dX0_begin_11 : decode bX0_begin 11 = .ok (.istore_n 2, 1) := by decide +kernel
theorem dX0_begin_12 : decode bX0_begin 12 = .ok (.iload_n 2, 1) := by decide +kernel
theorem dX0_begin_13 : decode bX0_begin 13 = .ok (.iconst 4, 1) := by decide +kernel
theorem dX0_begin_14 : decode bX0_begin 14 = .ok (.if_icmp .ge 64, 3) := by decide +kernel
theorem dX0_begin_17 : decode bX0_begin 17 = .ok (.aload_n 0, 1) := by decide +kernel
theorem dX0_begin_18 : decode bX0_begin 18 = .ok (.getfield 11, 3) := by decide +kernel
theorem dX0_begin_21 : decode bX0_begin 21 = .ok (.iload_n 2, 1) := by decide +kernel
theorem dX0_begin_22 : decode bX0_begin 22 = .ok (.aaload, 1) := by decide +kernel
theorem dX0_begin_23 : decode bX0_begin 23 = .ok (.invokevirtual 25, 3) := by decide +kernel
theorem dX0_begin_26 : decode bX0_begin 26 = .ok (.aload_n 0, 1) := by decide +kernel
theorem dX0_begin_27 : decode bX0_begin 27 = .ok (.getfield 11, 3) := by decide +kernel
theorem dX0_begin_30 : decode bX0_begin 30 = .ok (.iload_n 2, 1) := by decide +kernel
theorem dX0_begin_31 : decode bX0_begin 31 = .ok (.aaload, 1) := by decide +kernel
theorem dX0_begin_32 : decode bX0_begin 32 = .ok (.iconst 0, 1) := by decide +kernel
theorem dX0_begin_33 : decode bX0_begin 33 = .ok (.putfield 28, 3) := by decide +kernel
theorem dX0_begin_36 : decode bX0_begin 36 = .ok (.aload_n 0, 1) := by decide +kernel
theorem dX0_begin_37 : decode bX0_begin 37 = .ok (.getfield 11, 3) := by decide +kernel
theorem dX0_begin_40 : decode bX0_begin 40 = .ok (.iload_n 2, 1) := by decide +kernel
theorem dX0_begin_41 : decode bX0_begin 41 = .ok (.aaload, 1) := by decide +kernel
theorem dX0_begin_42 : decode bX0_begin 42 = .ok (.iconst 0, 1) := by decide +kernel
theorem dX0_begin_43 : decode bX0_begin 43 = .ok (.putfield 31, 3) := by decide +kernel
theorem dX0_begin_46 : decode bX0_begin 46 = .ok (.iload_n 2, 1) := by decide +kernel
theorem dX0_begin_47 : decode bX0_begin 47 = .ok (.aload_n 1, 1) := by decide +kernel
theorem dX0_begin_48 : decode bX0_begin 48 = .ok (.getfield 34, 3) := by decide +kernel
theorem dX0_begin_51 : decode bX0_begin 51 = .ok (.if_icmp .ge 21, 3) := by decide +kernel
theorem dX0_begin_54 : decode bX0_begin 54 = .ok (.aload_n 1, 1) := by decide +kernel
theorem dX0_begin_55 : decode bX0_begin 55 = .ok (.getfield 36, 3) := by decide +kernel
theorem dX0_begin_58 : decode bX0_begin 58 = .ok (.iload_n 2, 1) := by decide +kernel
theorem dX0_begin_59 : decode bX0_begin 59 = .ok (.aaload, 1) := by decide +kernel
theorem dX0_begin_60 : decode bX0_begin 60 = .ok (.aload_n 0, 1) := by decide +kernel
theorem dX0_begin_61 : decode bX0_begin 61 = .ok (.getfield 11, 3) := by decide +kernel
theorem dX0_begin_64 : decode bX0_begin 64 = .ok (.iload_n 2, 1) := by decide +kernel
theorem dX0_begin_65 : decode bX0_begin 65 = .ok (.aaload, 1) := by decide +kernel
theorem dX0_begin_66 : decode bX0_begin 66 = .ok (.bipush 8, 2) := by decide +kernel
theorem dX0_begin_68 : decode bX0_begin 68 = .ok (.invokevirtual 42, 3) := by decide +kernel
theorem dX0_begin_71 : decode bX0_begin 71 = .ok (.pop, 1) := by decide +kernel
theorem dX0_begin_72 : decode bX0_begin 72 = .ok (.iinc 2 1, 3) := by decide +kernel
theorem dX0_begin_75 : decode bX0_begin 75 = .ok (.goto (-63), 3) := by decide +kernel
theorem dX0_begin_78 : decode bX0_begin 78 = .ok (.return_, 1) := by decide +kernel
set_option maxRecDepth 20000 in
set_option maxHeartbeats 4000000 in
theorem cX0_begin {l : Launch} {k : Kx} {F : Nat} {a1 : Nat} {μ μ' : Mm} (hk : kok k) (e_this : kex k 0 0) (e_a1 : kex k 8 a1) (hf : fX0_begin F a1 μ = some μ') : MM l k 3 yX0_begin bX0_begin 3 none [.ref (kad k 0 0), .ref (kad k 8 a1)] μ none μ' := by
  refine MM.of (lv := [(0, .ref (kad k 0 0)), (1, .ref (kad k 8 a1))]) (plainFor_of_name (by decide)) hk (Nat.le_of_ble_eq_true rfl) rfl (fun z hl hx => ?_)
  subst hl
  have hx : Ok z k bX0_begin 3 "RopeDance$Evening" none 3 (0, 0) := hx
  have L72 : ∀ (K12 : Nat → Int32 → Mm → Option (Mm)) (HK12 : ∀ (v1 : Nat) (v2 : Int32) (μ : Mm) (e_v0 : kex k 0 0) (e_v1 : kex k 8 v1), K12 v1 v2 μ = some μ' → Gw z k 3 (k, (0, 0), none, none, μ') (0, 0) 12 μ [(0, .ref (kad k 0 0)), (1, .ref (kad k 8 v1)), (2, .int v2)] []) (v1 : Nat) (v2 : Int32) (μ : Mm) (e_v0 : kex k 0 0) (e_v1 : kex k 8 v1), fX0_begin_L72 F K12 v1 v2 μ = some μ' → Gw z k 3 (k, (0, 0), none, none, μ') (0, 0) 72 μ [(0, .ref (kad k 0 0)), (1, .ref (kad k 8 v1)), (2, .int v2)] [] := by
    intro K12 HK12 v1 v2 μ e_v0 e_v1 hf
    unfold fX0_begin_L72 at hf
    refine r_iinc (lv' := [(2, .int (v2 + 1)), (0, .ref (kad k 0 0)), (1, .ref (kad k 8 v1))]) hx 2 rfl (congrArg (fun y => v2 + y) ci_1) (Nat.le_of_ble_eq_true rfl) rfl dX0_begin_72 ?_
    refine r_goto (tgt := 12) hx rfl dX0_begin_75 ?_
    refine r_sub [1, 2, 0] rfl ?_
    exact HK12 v1 (v2 + 1) μ e_v0 e_v1 hf
  have L12 : ∀ (n : Nat) (v1 : Nat) (v2 : Int32) (μ : Mm) (e_v0 : kex k 0 0) (e_v1 : kex k 8 v1), fX0_begin_L12 F n v1 v2 μ = some μ' → Gw z k 3 (k, (0, 0), none, none, μ') (0, 0) 12 μ [(0, .ref (kad k 0 0)), (1, .ref (kad k 8 v1)), (2, .int v2)] [] := by
    intro  n
    induction n with
    | zero =>
      intro v1 v2 μ e_v0 e_v1 hf
      exact f_no (show (none : Option (Mm)) = _ from hf)
    | succ n ih =>
      intro v1 v2 μ e_v0 e_v1 hf
      rw [fX0_begin_L12] at hf
      refine r_iloadn hx 2 rfl rfl dX0_begin_12 ?_
      refine r_iconst hx ci_4 dX0_begin_13 ?_
      refine r_icge (tgt := 78) hx rfl dX0_begin_14 (fun q1 => ?_) (fun q1 => ?_)
      · have hf := (f_ite hf).1 q1
        exact r_vret hx hf dX0_begin_78
      · have hf := (f_ite hf).2 q1
        refine r_aloadn hx 0 rfl rfl dX0_begin_17 ?_
        refine r_getR hx (c' := 20) (i' := 0) FK0_0 e_v0 rfl wf_X0_11 dX0_begin_18 (fun e2 => ?_)
        refine r_iloadn hx 2 rfl rfl dX0_begin_21 ?_
        obtain ⟨b3, hf⟩ := f_chk hf
        refine r_aald hx (c' := 5) (i' := (v2.toNatClampNeg)) (by decide) (by decide) (by decide) e2 b3 rfl rfl dX0_begin_22 (fun e4 => ?_)
        obtain ⟨μ6, c5, hf⟩ := f_bd1 hf
        refine r_callV hx (As := []) (rest := []) (st1 := []) (c := 5) (i := (v2.toNatClampNeg)) (TT := T5) (N := 4) MK_X5_letGo rfl wi_X5_letGo we_X5_letGo wm_X0_25 ⟨Nat.le_refl _, Nat.le_refl _⟩ (cX5_letGo hk e4 c5) e4 (Nat.le_of_ble_eq_true rfl) rfl rfl (Nat.le_of_ble_eq_true rfl) rfl dX0_begin_23 (fun hb7 => ?_)
        refine r_aloadn hx 0 rfl rfl dX0_begin_26 ?_
        refine r_getR hx (c' := 20) (i' := 0) FK0_0 e_v0 rfl wf_X0_11 dX0_begin_27 (fun e8 => ?_)
        refine r_iloadn hx 2 rfl rfl dX0_begin_30 ?_
        refine r_aald hx (c' := 5) (i' := (v2.toNatClampNeg)) (by decide) (by decide) (by decide) e8 b3 rfl rfl dX0_begin_31 (fun e9 => ?_)
        refine r_iconst hx ci_0 dX0_begin_32 ?_
        refine r_putI (ty := .int) hx FK5_2 (fun T N h => by cases h; rfl) e9 wf_X0_28 (by decide +kernel) rfl rfl dX0_begin_33 ?_
        refine r_aloadn hx 0 rfl rfl dX0_begin_36 ?_
        refine r_getR hx (c' := 20) (i' := 0) FK0_0 e_v0 rfl wf_X0_11 dX0_begin_37 (fun e10 => ?_)
        refine r_iloadn hx 2 rfl rfl dX0_begin_40 ?_
        refine r_aald hx (c' := 5) (i' := (v2.toNatClampNeg)) (by decide) (by decide) (by decide) e10 b3 rfl rfl dX0_begin_41 (fun e11 => ?_)
        refine r_iconst hx ci_0 dX0_begin_42 ?_
        refine r_putI (ty := .int) hx FK5_3 (fun T N h => by cases h; rfl) e11 wf_X0_31 (by decide +kernel) rfl rfl dX0_begin_43 ?_
        refine r_iloadn hx 2 rfl rfl dX0_begin_46 ?_
        refine r_aloadn hx 1 rfl rfl dX0_begin_47 ?_
        refine r_getI hx FK8_0 e_v1 wf_X0_34 dX0_begin_48 ?_
        refine r_icge (tgt := 72) hx rfl dX0_begin_51 (fun q12 => ?_) (fun q12 => ?_)
        · have hf := (f_ite hf).1 q12
          refine r_sub [0, 1, 2] rfl ?_
          exact L72 _ ih  v1 v2 (si (si μ6 5 (v2.toNatClampNeg) 2 0) 5 (v2.toNatClampNeg) 3 0) e_v0 e_v1 hf
        · have hf := (f_ite hf).2 q12
          refine r_aloadn hx 1 rfl rfl dX0_begin_54 ?_
          refine r_getR hx (c' := 34) (i' := v1) FK8_3 e_v1 rfl wf_X0_36 dX0_begin_55 (fun e13 => ?_)
          refine r_iloadn hx 2 rfl rfl dX0_begin_58 ?_
          refine r_aald hx (c' := 3) (i' := (9 * v1 + v2.toNatClampNeg)) (by decide) (by decide) (by decide) e13 b3 rfl rfl dX0_begin_59 (fun e14 => ?_)
          refine r_aloadn hx 0 rfl rfl dX0_begin_60 ?_
          refine r_getR hx (c' := 20) (i' := 0) FK0_0 e_v0 rfl wf_X0_11 dX0_begin_61 (fun e15 => ?_)
          refine r_iloadn hx 2 rfl rfl dX0_begin_64 ?_
          refine r_aald hx (c' := 5) (i' := (v2.toNatClampNeg)) (by decide) (by decide) (by decide) e15 b3 rfl rfl dX0_begin_65 (fun e16 => ?_)
          refine r_bipush hx cb_8 dX0_begin_66 ?_
          obtain ⟨r19, μ18, c17, hf⟩ := f_bd2 hf
          refine r_callV hx (As := [.ref (kad k 5 (v2.toNatClampNeg)), .int 8]) (rest := []) (st1 := [.int r19]) (c := 3) (i := (9 * v1 + v2.toNatClampNeg)) (TT := T3) (N := 4) MK_X3_makes rfl wi_X3_makes we_X3_makes wm_X0_42 ⟨Nat.le_refl _, Nat.le_refl _⟩ (cX3_makes hk e14 e16 c17) e14 (Nat.le_of_ble_eq_true rfl) rfl rfl (Nat.le_of_ble_eq_true rfl) rfl dX0_begin_68 (fun hb20 => ?_)
          refine r_pop hx rfl dX0_begin_71 ?_
          refine r_sub [0, 1, 2] rfl ?_
          exact L72 _ ih  v1 v2 μ18 e_v0 e_v1 hf
  unfold fX0_begin at hf
  refine r_aloadn hx 0 rfl rfl dX0_begin_0 ?_
  refine r_iconst hx ci_0 dX0_begin_1 ?_
  refine r_putI (ty := .int) hx FK0_1 (fun T N h => by cases h; rfl) e_this wf_X0_18 (by decide +kernel) rfl rfl dX0_begin_2 ?_
  refine r_aloadn hx 0 rfl rfl dX0_begin_5 ?_
  refine r_iconst hx ci_0 dX0_begin_6 ?_
  refine r_putI (ty := .int) hx FK0_2 (fun T N h => by cases h; rfl) e_this wf_X0_22 (by decide +kernel) rfl rfl dX0_begin_7 ?_
  refine r_iconst hx ci_0 dX0_begin_10 ?_
  refine r_istoren (lv' := [(2, .int 0), (0, .ref (kad k 0 0)), (1, .ref (kad k 8 a1))]) hx rfl (Nat.le_of_ble_eq_true rfl) rfl dX0_begin_11 ?_
  refine r_sub [1, 2, 0] rfl ?_
  exact L12 F a1 0 (si (si μ 0 0 1 0) 0 0 2 0) e_this e_a1 hf
theorem dX5_crossings_0 : decode bX5_crossings 0 = .ok (.iconst 0, 1) := by decide +kernel
theorem dX5_crossings_1 : decode bX5_crossings 1 = .ok (.istore_n 1, 1) := by decide +kernel
theorem dX5_crossings_2 : decode bX5_crossings 2 = .ok (.aload_n 0, 1) := by decide +kernel
theorem dX5_crossings_3 : decode bX5_crossings 3 = .ok (.getfield 23, 3) := by decide +kernel
theorem dX5_crossings_6 : decode bX5_crossings 6 = .ok (.invokestatic 35, 3) := by decide +kernel
theorem dX5_crossings_9 : decode bX5_crossings 9 = .ok (.istore_n 2, 1) := by decide +kernel
theorem dX5_crossings_10 : decode bX5_crossings 10 = .ok (.aload_n 0, 1) := by decide +kernel
theorem dX5_crossings_11 : decode bX5_crossings 11 = .ok (.getfield 7, 3) := by decide +kernel
theorem dX5_crossings_14 : decode bX5_crossings 14 = .ok (.istore_n 3, 1) := by decide +kernel
theorem dX5_crossings_15 : decode bX5_crossings 15 = .ok (.iconst 0, 1) := by decide +kernel
theorem dX5_crossings_16 : decode bX5_crossings 16 = .ok (.istore 4, 2) := by decide +kernel
theorem dX5_crossings_18 : decode bX5_crossings 18 = .ok (.iload 4, 2) := by decide +kernel
theorem dX5_crossings_20 : decode bX5_crossings 20 = .ok (.bipush 100, 2) := by decide +kernel
theorem dX5_crossings_22 : decode bX5_crossings 22 = .ok (.if_icmp .ge 29, 3) := by decide +kernel
theorem dX5_crossings_25 : decode bX5_crossings 25 = .ok (.iload_n 3, 1) := by decide +kernel
theorem dX5_crossings_26 : decode bX5_crossings 26 = .ok (.ifCond .eq 25, 3) := by decide +kernel
theorem dX5_crossings_29 : decode bX5_crossings 29 = .ok (.iload_n 1, 1) := by decide +kernel
theorem dX5_crossings_30 : decode bX5_crossings 30 = .ok (.iload_n 2, 1) := by decide +kernel
theorem dX5_crossings_31 : decode bX5_crossings 31 = .ok (.iload_n 3, 1) := by decide +kernel
theorem dX5_crossings_32 : decode bX5_crossings 32 = .ok (.idiv, 1) := by decide +kernel
theorem dX5_crossings_33 : decode bX5_crossings 33 = .ok (.iadd, 1) := by decide +kernel
theorem dX5_crossings_34 : decode bX5_crossings 34 = .ok (.istore_n 1, 1) := by decide +kernel
theorem dX5_crossings_35 : decode bX5_crossings 35 = .ok (.iload_n 2, 1) := by decide +kernel
theorem dX5_crossings_36 : decode bX5_crossings 36 = .ok (.iload_n 3, 1) := by decide +kernel
theorem dX5_crossings_37 : decode bX5_crossings 37 = .ok (.irem, 1) := by decide +kernel
theorem dX5_crossings_38 : decode bX5_crossings 38 = .ok (.istore 5, 2) := by decide +kernel
theorem dX5_crossings_40 : decode bX5_crossings 40 = .ok (.iload_n 3, 1) := by decide +kernel
theorem dX5_crossings_41 : decode bX5_crossings 41 = .ok (.istore_n 2, 1) := by decide +kernel
theorem dX5_crossings_42 : decode bX5_crossings 42 = .ok (.iload 5, 2) := by decide +kernel
theorem dX5_crossings_44 : decode bX5_crossings 44 = .ok (.istore_n 3, 1) := by decide +kernel
theorem dX5_crossings_45 : decode bX5_crossings 45 = .ok (.iinc 4 1, 3) := by decide +kernel
theorem dX5_crossings_48 : decode bX5_crossings 48 = .ok (.goto (-30), 3) := by decide +kernel
theorem dX5_crossings_51 : decode bX5_crossings 51 = .ok (.iload_n 1, 1) := by decide +kernel
theorem dX5_crossings_52 : decode bX5_crossings 52 = .ok (.ireturn, 1) := by decide +kernel
set_option maxRecDepth 20000 in
set_option maxHeartbeats 4000000 in
theorem cX5_crossings {l : Launch} {k : Kx} {F : Nat} {this : Nat} {μ μ' : Mm} {r : Int32} (hk : kok k) (e_this : kex k 5 this) (hf : fX5_crossings F this μ = some (r, μ')) : MM l k 1 yX5_crossings bX5_crossings 6 (some .int) [.ref (kad k 5 this)] μ (some (.int r)) μ' := by
  refine MM.of (lv := [(0, .ref (kad k 5 this))]) (plainFor_of_name (by decide)) hk (Nat.le_of_ble_eq_true rfl) rfl (fun z hl hx => ?_)
  subst hl
  have hx : Ok z k bX5_crossings 6 "RopeDance$Square" (some .int) 1 (0, 0) := hx
  have L18 : ∀ (n : Nat) (v1 : Int32) (v2 : Int32) (v3 : Int32) (v4 : Int32) (μ : Mm), fX5_crossings_L18 F n v1 v2 v3 v4 μ = some (r, μ') → Gw z k 6 (k, (0, 0), (some .int), (some (.int r)), μ') (0, 0) 18 μ [(1, .int v1), (2, .int v2), (3, .int v3), (4, .int v4)] [] := by
    intro  n
    induction n with
    | zero =>
      intro v1 v2 v3 v4 μ hf
      exact f_no (show (none : Option (Int32 × Mm)) = _ from hf)
    | succ n ih =>
      intro v1 v2 v3 v4 μ hf
      rw [fX5_crossings_L18] at hf
      refine r_iload hx 3 rfl dX5_crossings_18 ?_
      refine r_bipush hx cb_100 dX5_crossings_20 ?_
      refine r_icge (tgt := 51) hx rfl dX5_crossings_22 (fun q1 => ?_) (fun q1 => ?_)
      · have hf := (f_ite hf).1 q1
        refine r_iloadn hx 0 rfl rfl dX5_crossings_51 ?_
        exact r_iret hx hf dX5_crossings_52
      · have hf := (f_ite hf).2 q1
        refine r_iloadn hx 2 rfl rfl dX5_crossings_25 ?_
        refine r_ifeq (tgt := 51) hx rfl dX5_crossings_26 (fun q2 => ?_) (fun q2 => ?_)
        · have hf := (f_ite hf).1 q2
          refine r_iloadn hx 0 rfl rfl dX5_crossings_51 ?_
          exact r_iret hx hf dX5_crossings_52
        · have hf := (f_ite hf).2 q2
          refine r_iloadn hx 0 rfl rfl dX5_crossings_29 ?_
          refine r_iloadn hx 1 rfl rfl dX5_crossings_30 ?_
          refine r_iloadn hx 2 rfl rfl dX5_crossings_31 ?_
          obtain ⟨q3, hf⟩ := f_nz hf
          refine r_idiv hx q3 dX5_crossings_32 ?_
          refine r_iadd hx dX5_crossings_33 ?_
          refine r_istoren (lv' := [(1, .int (v1 + (v2 / v3))), (2, .int v2), (3, .int v3), (4, .int v4)]) hx rfl (Nat.le_of_ble_eq_true rfl) rfl dX5_crossings_34 ?_
          refine r_iloadn hx 1 rfl rfl dX5_crossings_35 ?_
          refine r_iloadn hx 2 rfl rfl dX5_crossings_36 ?_
          obtain ⟨q4, hf⟩ := f_nz hf
          refine r_irem hx q4 dX5_crossings_37 ?_
          refine r_istore (lv' := [(5, .int (irm v2 v3)), (1, .int (v1 + (v2 / v3))), (2, .int v2), (3, .int v3), (4, .int v4)]) hx (Nat.le_of_ble_eq_true rfl) rfl dX5_crossings_38 ?_
          refine r_iloadn hx 3 rfl rfl dX5_crossings_40 ?_
          refine r_istoren (lv' := [(2, .int v3), (5, .int (irm v2 v3)), (1, .int (v1 + (v2 / v3))), (3, .int v3), (4, .int v4)]) hx rfl (Nat.le_of_ble_eq_true rfl) rfl dX5_crossings_41 ?_
          refine r_iload hx 1 rfl dX5_crossings_42 ?_
          refine r_istoren (lv' := [(3, .int (irm v2 v3)), (2, .int v3), (5, .int (irm v2 v3)), (1, .int (v1 + (v2 / v3))), (4, .int v4)]) hx rfl (Nat.le_of_ble_eq_true rfl) rfl dX5_crossings_44 ?_
          refine r_iinc (lv' := [(4, .int (v4 + 1)), (3, .int (irm v2 v3)), (2, .int v3), (5, .int (irm v2 v3)), (1, .int (v1 + (v2 / v3)))]) hx 4 rfl (congrArg (fun y => v4 + y) ci_1) (Nat.le_of_ble_eq_true rfl) rfl dX5_crossings_45 ?_
          refine r_goto (tgt := 18) hx rfl dX5_crossings_48 ?_
          refine r_sub [4, 2, 1, 0] rfl ?_
          exact ih (v1 + (v2 / v3)) v3 (irm v2 v3) (v4 + 1) μ hf
  unfold fX5_crossings at hf
  refine r_iconst hx ci_0 dX5_crossings_0 ?_
  refine r_istoren (lv' := [(1, .int 0), (0, .ref (kad k 5 this))]) hx rfl (Nat.le_of_ble_eq_true rfl) rfl dX5_crossings_1 ?_
  refine r_aloadn hx 1 rfl rfl dX5_crossings_2 ?_
  refine r_getI hx FK5_0 e_this wf_X5_23 dX5_crossings_3 ?_
  refine r_mabs hx wm_X5_35 xws_abs xwm xwk_abs ⟨Nat.le_refl _, Nat.le_refl _⟩ (Nat.le_of_ble_eq_true rfl) (Nat.le_of_ble_eq_true rfl) dX5_crossings_6 ?_
  refine r_istoren (lv' := [(2, .int (ab (gi μ 5 this 0))), (1, .int 0), (0, .ref (kad k 5 this))]) hx rfl (Nat.le_of_ble_eq_true rfl) rfl dX5_crossings_9 ?_
  refine r_aloadn hx 2 rfl rfl dX5_crossings_10 ?_
  refine r_getI hx FK5_1 e_this wf_X5_7 dX5_crossings_11 ?_
  refine r_istoren (lv' := [(3, .int (gi μ 5 this 1)), (2, .int (ab (gi μ 5 this 0))), (1, .int 0), (0, .ref (kad k 5 this))]) hx rfl (Nat.le_of_ble_eq_true rfl) rfl dX5_crossings_14 ?_
  refine r_iconst hx ci_0 dX5_crossings_15 ?_
  refine r_istore (lv' := [(4, .int 0), (3, .int (gi μ 5 this 1)), (2, .int (ab (gi μ 5 this 0))), (1, .int 0), (0, .ref (kad k 5 this))]) hx (Nat.le_of_ble_eq_true rfl) rfl dX5_crossings_16 ?_
  refine r_sub [3, 2, 1, 0] rfl ?_
  exact L18 F 0 (ab (gi μ 5 this 0)) (gi μ 5 this 1) 0 μ hf
theorem dX5_endsOf_0 : decode bX5_endsOf 0 = .ok (.iload_n 0, 1) := by decide +kernel
theorem dX5_endsOf_1 : decode bX5_endsOf 1 = .ok (.iconst 1, 1) := by decide +kernel
theorem dX5_endsOf_2 : decode bX5_endsOf 2 = .ok (.iand, 1) := by decide +kernel
theorem dX5_endsOf_3 : decode bX5_endsOf 3 = .ok (.ifCond .ne 5, 3) := by decide +kernel
theorem dX5_endsOf_6 : decode bX5_endsOf 6 = .ok (.iconst 0, 1) := by decide +kernel
theorem dX5_endsOf_7 : decode bX5_endsOf 7 = .ok (.ireturn, 1) := by decide +kernel
theorem dX5_endsOf_8 : decode bX5_endsOf 8 = .ok (.iload_n 1, 1) := by decide +kernel
theorem dX5_endsOf_9 : decode bX5_endsOf 9 = .ok (.iconst 1, 1) := by decide +kernel
theorem dX5_endsOf_10 : decode bX5_endsOf 10 = .ok (.iand, 1) := by decide +kernel
theorem dX5_endsOf_11 : decode bX5_endsOf 11 = .ok (.ifCond .ne 7, 3) := by decide +kernel
theorem dX5_endsOf_14 : decode bX5_endsOf 14 = .ok (.iconst 2, 1) := by decide +kernel
theorem dX5_endsOf_15 : decode bX5_endsOf 15 = .ok (.goto 4, 3) := by decide +kernel
theorem dX5_endsOf_18 : decode bX5_endsOf 18 = .ok (.iconst 1, 1) := by decide +kernel
theorem dX5_endsOf_19 : decode bX5_endsOf 19 = .ok (.ireturn, 1) := by decide +kernel
set_option maxRecDepth 20000 in
set_option maxHeartbeats 4000000 in
theorem cX5_endsOf {l : Launch} {k : Kx} {F : Nat} {a0 : Int32} {a1 : Int32} {μ μ' : Mm} {r : Int32} (hk : kok k) (hf : fX5_endsOf F a0 a1 μ = some (r, μ')) : MM l k 0 yX5_endsOf bX5_endsOf 2 (some .int) [.int a0, .int a1] μ (some (.int r)) μ' := by
  refine MM.of (lv := [(0, .int a0), (1, .int a1)]) (plainFor_of_name (by decide)) hk (Nat.le_of_ble_eq_true rfl) rfl (fun z hl hx => ?_)
  subst hl
  have hx : Ok z k bX5_endsOf 2 "RopeDance$Square" (some .int) 0 (0, 0) := hx
  unfold fX5_endsOf at hf
  refine r_iloadn hx 0 rfl rfl dX5_endsOf_0 ?_
  refine r_iconst hx ci_1 dX5_endsOf_1 ?_
  refine r_iand hx dX5_endsOf_2 ?_
  refine r_ifne (tgt := 8) hx rfl dX5_endsOf_3 (fun q1 => ?_) (fun q1 => ?_)
  · have hf := (f_ite hf).2 q1
    refine r_iloadn hx 1 rfl rfl dX5_endsOf_8 ?_
    refine r_iconst hx ci_1 dX5_endsOf_9 ?_
    refine r_iand hx dX5_endsOf_10 ?_
    refine r_ifne (tgt := 18) hx rfl dX5_endsOf_11 (fun q2 => ?_) (fun q2 => ?_)
    · have hf := (f_ite hf).2 q2
      refine r_iconst hx ci_1 dX5_endsOf_18 ?_
      exact r_iret hx hf dX5_endsOf_19
    · have hf := (f_ite hf).1 q2
      refine r_iconst hx ci_2 dX5_endsOf_14 ?_
      refine r_goto (tgt := 19) hx rfl dX5_endsOf_15 ?_
      exact r_iret hx hf dX5_endsOf_19
  · have hf := (f_ite hf).1 q1
    refine r_iconst hx ci_0 dX5_endsOf_6 ?_
    exact r_iret hx hf dX5_endsOf_7
theorem dX5_ends_0 : decode bX5_ends 0 = .ok (.aload_n 0, 1) := by decide +kernel
theorem dX5_ends_1 : decode bX5_ends 1 = .ok (.getfield 23, 3) := by decide +kernel
theorem dX5_ends_4 : decode bX5_ends 4 = .ok (.aload_n 0, 1) := by decide +kernel
theorem dX5_ends_5 : decode bX5_ends 5 = .ok (.getfield 7, 3) := by decide +kernel
theorem dX5_ends_8 : decode bX5_ends 8 = .ok (.invokestatic 41, 3) := by decide +kernel
theorem dX5_ends_11 : decode bX5_ends 11 = .ok (.ireturn, 1) := by decide +kernel
set_option maxRecDepth 20000 in
set_option maxHeartbeats 4000000 in
theorem cX5_ends {l : Launch} {k : Kx} {F : Nat} {this : Nat} {μ μ' : Mm} {r : Int32} (hk : kok k) (e_this : kex k 5 this) (hf : fX5_ends F this μ = some (r, μ')) : MM l k 1 yX5_ends bX5_ends 1 (some .int) [.ref (kad k 5 this)] μ (some (.int r)) μ' := by
  refine MM.of (lv := [(0, .ref (kad k 5 this))]) (plainFor_of_name (by decide)) hk (Nat.le_of_ble_eq_true rfl) rfl (fun z hl hx => ?_)
  subst hl
  have hx : Ok z k bX5_ends 1 "RopeDance$Square" (some .int) 1 (0, 0) := hx
  unfold fX5_ends at hf
  refine r_aloadn hx 0 rfl rfl dX5_ends_0 ?_
  refine r_getI hx FK5_0 e_this wf_X5_23 dX5_ends_1 ?_
  refine r_aloadn hx 0 rfl rfl dX5_ends_4 ?_
  refine r_getI hx FK5_1 e_this wf_X5_7 dX5_ends_5 ?_
  obtain ⟨r3, μ2, c1, hf⟩ := f_bd2 hf
  refine r_callS hx (As := [.int (gi μ 5 this 0), .int (gi μ 5 this 1)]) (rest := []) (st1 := [.int r3]) MK_X5_endsOf ws_X5_endsOf wm_X5_41 ⟨Nat.le_refl _, Nat.le_refl _⟩ (cX5_endsOf hk c1) (Nat.le_of_ble_eq_true rfl) rfl rfl (Nat.le_of_ble_eq_true rfl) rfl dX5_ends_8 (fun hb4 => ?_)
  exact r_iret hx hf dX5_ends_11
theorem dX8_jump_0 : decode bX8_jump 0 = .ok (.iload_n 1, 1) := by decide +kernel
theorem dX8_jump_1 : decode bX8_jump 1 = .ok (.iconst 1, 1) := by decide +kernel
theorem dX8_jump_2 : decode bX8_jump 2 = .ok (.iadd, 1) := by decide +kernel
theorem dX8_jump_3 : decode bX8_jump 3 = .ok (.aload_n 0, 1) := by decide +kernel
theorem dX8_jump_4 : decode bX8_jump 4 = .ok (.getfield 64, 3) := by decide +kernel
theorem dX8_jump_7 : decode bX8_jump 7 = .ok (.if_icmp .ge 14, 3) := by decide +kernel
theorem dX8_jump_10 : decode bX8_jump 10 = .ok (.aload_n 0, 1) := by decide +kernel
theorem dX8_jump_11 : decode bX8_jump 11 = .ok (.getfield 25, 3) := by decide +kernel
theorem dX8_jump_14 : decode bX8_jump 14 = .ok (.iload_n 1, 1) := by decide +kernel
theorem dX8_jump_15 : decode bX8_jump 15 = .ok (.iconst 1, 1) := by decide +kernel
theorem dX8_jump_16 : decode bX8_jump 16 = .ok (.iadd, 1) := by decide +kernel
theorem dX8_jump_17 : decode bX8_jump 17 = .ok (.iaload, 1) := by decide +kernel
theorem dX8_jump_18 : decode bX8_jump 18 = .ok (.goto 7, 3) := by decide +kernel
theorem dX8_jump_21 : decode bX8_jump 21 = .ok (.aload_n 0, 1) := by decide +kernel
theorem dX8_jump_22 : decode bX8_jump 22 = .ok (.getfield 64, 3) := by decide +kernel
theorem dX8_jump_25 : decode bX8_jump 25 = .ok (.istore_n 2, 1) := by decide +kernel
theorem dX8_jump_26 : decode bX8_jump 26 = .ok (.iload_n 1, 1) := by decide +kernel
theorem dX8_jump_27 : decode bX8_jump 27 = .ok (.iconst 1, 1) := by decide +kernel
theorem dX8_jump_28 : decode bX8_jump 28 = .ok (.iadd, 1) := by decide +kernel
theorem dX8_jump_29 : decode bX8_jump 29 = .ok (.iload_n 2, 1) := by decide +kernel
theorem dX8_jump_30 : decode bX8_jump 30 = .ok (.iconst 1, 1) := by decide +kernel
theorem dX8_jump_31 : decode bX8_jump 31 = .ok (.isub, 1) := by decide +kernel
theorem dX8_jump_32 : decode bX8_jump 32 = .ok (.invokestatic 111, 3) := by decide +kernel
theorem dX8_jump_35 : decode bX8_jump 35 = .ok (.ireturn, 1) := by decide +kernel
set_option maxRecDepth 20000 in
set_option maxHeartbeats 4000000 in
theorem cX8_jump {l : Launch} {k : Kx} {F : Nat} {this : Nat} {a1 : Int32} {μ μ' : Mm} {r : Int32} (hk : kok k) (e_this : kex k 8 this) (hf : fX8_jump F this a1 μ = some (r, μ')) : MM l k 1 yX8_jump bX8_jump 3 (some .int) [.ref (kad k 8 this), .int a1] μ (some (.int r)) μ' := by
  refine MM.of (lv := [(0, .ref (kad k 8 this)), (1, .int a1)]) (plainFor_of_name (by decide)) hk (Nat.le_of_ble_eq_true rfl) rfl (fun z hl hx => ?_)
  subst hl
  have hx : Ok z k bX8_jump 3 "RopeDance$Text" (some .int) 1 (0, 0) := hx
  have L25 : ∀ (v1 : Int32) (s0 : Int32) (μ : Mm), fX8_jump_L25 F v1 s0 μ = some (r, μ') → Gw z k 3 (k, (0, 0), (some .int), (some (.int r)), μ') (0, 0) 25 μ [(1, .int v1)] [.int s0] := by
    intro  v1 s0 μ hf
    unfold fX8_jump_L25 at hf
    refine r_istoren (lv' := [(2, .int s0), (1, .int v1)]) hx rfl (Nat.le_of_ble_eq_true rfl) rfl dX8_jump_25 ?_
    refine r_iloadn hx 1 rfl rfl dX8_jump_26 ?_
    refine r_iconst hx ci_1 dX8_jump_27 ?_
    refine r_iadd hx dX8_jump_28 ?_
    refine r_iloadn hx 0 rfl rfl dX8_jump_29 ?_
    refine r_iconst hx ci_1 dX8_jump_30 ?_
    refine r_isub hx dX8_jump_31 ?_
    refine r_mmax hx wm_X8_111 xws_max xwm xwk_max ⟨Nat.le_refl _, Nat.le_refl _⟩ (Nat.le_of_ble_eq_true rfl) (Nat.le_of_ble_eq_true rfl) dX8_jump_32 ?_
    exact r_iret hx hf dX8_jump_35
  unfold fX8_jump at hf
  refine r_iloadn hx 1 rfl rfl dX8_jump_0 ?_
  refine r_iconst hx ci_1 dX8_jump_1 ?_
  refine r_iadd hx dX8_jump_2 ?_
  refine r_aloadn hx 0 rfl rfl dX8_jump_3 ?_
  refine r_getI hx FK8_5 e_this wf_X8_64 dX8_jump_4 ?_
  refine r_icge (tgt := 21) hx rfl dX8_jump_7 (fun q1 => ?_) (fun q1 => ?_)
  · have hf := (f_ite hf).1 q1
    refine r_aloadn hx 0 rfl rfl dX8_jump_21 ?_
    refine r_getI hx FK8_5 e_this wf_X8_64 dX8_jump_22 ?_
    refine r_sub [1] rfl ?_
    exact L25  a1 (gi μ 8 this 5) μ hf
  · have hf := (f_ite hf).2 q1
    refine r_aloadn hx 0 rfl rfl dX8_jump_10 ?_
    refine r_getR hx (c' := 37) (i' := this) FK8_8 e_this rfl wf_X8_25 dX8_jump_11 (fun e2 => ?_)
    refine r_iloadn hx 1 rfl rfl dX8_jump_14 ?_
    refine r_iconst hx ci_1 dX8_jump_15 ?_
    refine r_iadd hx dX8_jump_16 ?_
    obtain ⟨b3, hf⟩ := f_chk hf
    refine r_iald hx (by decide) rfl e2 b3 rfl dX8_jump_17 ?_
    refine r_goto (tgt := 25) hx rfl dX8_jump_18 ?_
    refine r_sub [1] rfl ?_
    exact L25  a1 (gi μ 37 this (a1 + 1).toNatClampNeg) μ hf
theorem dX8_work_0 : decode bX8_work 0 = .ok (.iload_n 0, 1) := by decide +kernel
theorem dX8_work_1 : decode bX8_work 1 = .ok (.tableswitch 39 (-12) (-10) #[35, 31, 27], 27) := by decide +kernel
theorem dX8_work_28 : decode bX8_work 28 = .ok (.iload_n 1, 1) := by decide +kernel
theorem dX8_work_29 : decode bX8_work 29 = .ok (.iload_n 2, 1) := by decide +kernel
theorem dX8_work_30 : decode bX8_work 30 = .ok (.iadd, 1) := by decide +kernel
theorem dX8_work_31 : decode bX8_work 31 = .ok (.ireturn, 1) := by decide +kernel
theorem dX8_work_32 : decode bX8_work 32 = .ok (.iload_n 1, 1) := by decide +kernel
theorem dX8_work_33 : decode bX8_work 33 = .ok (.iload_n 2, 1) := by decide +kernel
theorem dX8_work_34 : decode bX8_work 34 = .ok (.isub, 1) := by decide +kernel
theorem dX8_work_35 : decode bX8_work 35 = .ok (.ireturn, 1) := by decide +kernel
theorem dX8_work_36 : decode bX8_work 36 = .ok (.iload_n 1, 1) := by decide +kernel
theorem dX8_work_37 : decode bX8_work 37 = .ok (.iload_n 2, 1) := by decide +kernel
theorem dX8_work_38 : decode bX8_work 38 = .ok (.imul, 1) := by decide +kernel
theorem dX8_work_39 : decode bX8_work 39 = .ok (.ireturn, 1) := by decide +kernel
theorem dX8_work_40 : decode bX8_work 40 = .ok (.iload_n 2, 1) := by decide +kernel
theorem dX8_work_41 : decode bX8_work 41 = .ok (.ifCond .ne 7, 3) := by decide +kernel
theorem dX8_work_44 : decode bX8_work 44 = .ok (.iconst 0, 1) := by decide +kernel
theorem dX8_work_45 : decode bX8_work 45 = .ok (.goto 6, 3) := by decide +kernel
theorem dX8_work_48 : decode bX8_work 48 = .ok (.iload_n 1, 1) := by decide +kernel
theorem dX8_work_49 : decode bX8_work 49 = .ok (.iload_n 2, 1) := by decide +kernel
theorem dX8_work_50 : decode bX8_work 50 = .ok (.idiv, 1) := by decide +kernel
theorem dX8_work_51 : decode bX8_work 51 = .ok (.ireturn, 1) := by decide +kernel
set_option maxRecDepth 20000 in
set_option maxHeartbeats 4000000 in
theorem cX8_work {l : Launch} {k : Kx} {F : Nat} {a0 : Int32} {a1 : Int32} {a2 : Int32} {μ μ' : Mm} {r : Int32} (hk : kok k) (hf : fX8_work F a0 a1 a2 μ = some (r, μ')) : MM l k 0 yX8_work bX8_work 3 (some .int) [.int a0, .int a1, .int a2] μ (some (.int r)) μ' := by
  refine MM.of (lv := [(0, .int a0), (1, .int a1), (2, .int a2)]) (plainFor_of_name (by decide)) hk (Nat.le_of_ble_eq_true rfl) rfl (fun z hl hx => ?_)
  subst hl
  have hx : Ok z k bX8_work 3 "RopeDance$Text" (some .int) 0 (0, 0) := hx
  unfold fX8_work at hf
  refine r_iloadn hx 0 rfl rfl dX8_work_0 ?_
  by_cases q1 : a0 = (-12)
  · have hf := (f_ite hf).1 q1
    refine r_tableIn (off := 35) (tgt := 36) hx (by rw [q1]; decide) (by rw [q1]; decide) (by rw [q1]; rfl) rfl dX8_work_1 ?_
    refine r_iloadn hx 1 rfl rfl dX8_work_36 ?_
    refine r_iloadn hx 2 rfl rfl dX8_work_37 ?_
    refine r_imul hx dX8_work_38 ?_
    exact r_iret hx hf dX8_work_39
  · have hf := (f_ite hf).2 q1
    by_cases q2 : a0 = (-11)
    · have hf := (f_ite hf).1 q2
      refine r_tableIn (off := 31) (tgt := 32) hx (by rw [q2]; decide) (by rw [q2]; decide) (by rw [q2]; rfl) rfl dX8_work_1 ?_
      refine r_iloadn hx 1 rfl rfl dX8_work_32 ?_
      refine r_iloadn hx 2 rfl rfl dX8_work_33 ?_
      refine r_isub hx dX8_work_34 ?_
      exact r_iret hx hf dX8_work_35
    · have hf := (f_ite hf).2 q2
      by_cases q3 : a0 = (-10)
      · have hf := (f_ite hf).1 q3
        refine r_tableIn (off := 27) (tgt := 28) hx (by rw [q3]; decide) (by rw [q3]; decide) (by rw [q3]; rfl) rfl dX8_work_1 ?_
        refine r_iloadn hx 1 rfl rfl dX8_work_28 ?_
        refine r_iloadn hx 2 rfl rfl dX8_work_29 ?_
        refine r_iadd hx dX8_work_30 ?_
        exact r_iret hx hf dX8_work_31
      · have hf := (f_ite hf).2 q3
        have tq1 := lv_neT (a := -12) q1 (by decide)
        have tq2 := lv_neT (a := -11) q2 (by decide)
        have tq3 := lv_neT (a := -10) q3 (by decide)
        refine r_tableOut (tgt := 40) hx (by omega) rfl dX8_work_1 ?_
        refine r_iloadn hx 2 rfl rfl dX8_work_40 ?_
        refine r_ifne (tgt := 48) hx rfl dX8_work_41 (fun q4 => ?_) (fun q4 => ?_)
        · have hf := (f_ite hf).2 q4
          refine r_iloadn hx 1 rfl rfl dX8_work_48 ?_
          refine r_iloadn hx 2 rfl rfl dX8_work_49 ?_
          obtain ⟨q5, hf⟩ := f_nz hf
          refine r_idiv hx q5 dX8_work_50 ?_
          exact r_iret hx hf dX8_work_51
        · have hf := (f_ite hf).1 q4
          refine r_iconst hx ci_0 dX8_work_44 ?_
          refine r_goto (tgt := 51) hx rfl dX8_work_45 ?_
          exact r_iret hx hf dX8_work_51
theorem dX8_run_0 : decode bX8_run 0 = .ok (.iconst 0, 1) := by decide +kernel
theorem dX8_run_1 : decode bX8_run 1 = .ok (.istore_n 2, 1) := by decide +kernel
theorem dX8_run_2 : decode bX8_run 2 = .ok (.iconst 0, 1) := by decide +kernel
theorem dX8_run_3 : decode bX8_run 3 = .ok (.iload_n 1, 1) := by decide +kernel
theorem dX8_run_4 : decode bX8_run 4 = .ok (.invokestatic 111, 3) := by decide +kernel
theorem dX8_run_7 : decode bX8_run 7 = .ok (.istore_n 3, 1) := by decide +kernel
theorem dX8_run_8 : decode bX8_run 8 = .ok (.iload_n 3, 1) := by decide +kernel
theorem dX8_run_9 : decode bX8_run 9 = .ok (.aload_n 0, 1) := by decide +kernel
theorem dX8_run_10 : decode bX8_run 10 = .ok (.getfield 64, 3) := by decide +kernel
theorem dX8_run_13 : decode bX8_run 13 = .ok (.if_icmp .ge 183, 3) := by decide +kernel
theorem dX8_run_16 : decode bX8_run 16 = .ok (.aload_n 0, 1) := by decide +kernel
theorem dX8_run_17 : decode bX8_run 17 = .ok (.getfield 25, 3) := by decide +kernel
theorem dX8_run_20 : decode bX8_run 20 = .ok (.iload_n 3, 1) := by decide +kernel
theorem dX8_run_21 : decode bX8_run 21 = .ok (.iaload, 1) := by decide +kernel
theorem dX8_run_22 : decode bX8_run 22 = .ok (.istore 4, 2) := by decide +kernel
theorem dX8_run_24 : decode bX8_run 24 = .ok (.iload 4, 2) := by decide +kernel
theorem dX8_run_26 : decode bX8_run 26 = .ok (.bipush (-10), 2) := by decide +kernel
theorem dX8_run_28 : decode bX8_run 28 = .ok (.if_icmp .le 45, 3) := by decide +kernel
theorem dX8_run_31 : decode bX8_run 31 = .ok (.iload_n 2, 1) := by decide +kernel
theorem dX8_run_32 : decode bX8_run 32 = .ok (.aload_n 0, 1) := by decide +kernel
theorem dX8_run_33 : decode bX8_run 33 = .ok (.getfield 38, 3) := by decide +kernel
theorem dX8_run_36 : decode bX8_run 36 = .ok (.arraylength, 1) := by decide +kernel
theorem dX8_run_37 : decode bX8_run 37 = .ok (.if_icmp .lt 5, 3) := by decide +kernel
theorem dX8_run_40 : decode bX8_run 40 = .ok (.iconst 0, 1) := by decide +kernel
theorem dX8_run_41 : decode bX8_run 41 = .ok (.ireturn, 1) := by decide +kernel
theorem dX8_run_42 : decode bX8_run 42 = .ok (.aload_n 0, 1) := by decide +kernel
theorem dX8_run_43 : decode bX8_run 43 = .ok (.getfield 38, 3) := by decide +kernel
theorem dX8_run_46 : decode bX8_run 46 = .ok (.iload_n 2, 1) := by decide +kernel
theorem dX8_run_47 : decode bX8_run 47 = .ok (.iload 4, 2) := by decide +kernel
theorem dX8_run_49 : decode bX8_run 49 = .ok (.ifCond .lt 8, 3) := by decide +kernel
theorem dX8_run_52 : decode bX8_run 52 = .ok (.iload 4, 2) := by decide +kernel
theorem dX8_run_54 : decode bX8_run 54 = .ok (.goto 12, 3) := by decide +kernel
theorem dX8_run_57 : decode bX8_run 57 = .ok (.aload_n 0, 1) := by decide +kernel
theorem dX8_run_58 : decode bX8_run 58 = .ok (.getfield 35, 3) := by decide +kernel
theorem dX8_run_61 : decode bX8_run 61 = .ok (.iconst (-1), 1) := by decide +kernel
theorem dX8_run_62 : decode bX8_run 62 = .ok (.iload 4, 2) := by decide +kernel
theorem dX8_run_64 : decode bX8_run 64 = .ok (.isub, 1) := by decide +kernel
theorem dX8_run_65 : decode bX8_run 65 = .ok (.iaload, 1) := by decide +kernel
theorem dX8_run_66 : decode bX8_run 66 = .ok (.iastore, 1) := by decide +kernel
theorem dX8_run_67 : decode bX8_run 67 = .ok (.iinc 2 1, 3) := by decide +kernel
theorem dX8_run_70 : decode bX8_run 70 = .ok (.goto 120, 3) := by decide +kernel
theorem dX8_run_73 : decode bX8_run 73 = .ok (.iload 4, 2) := by decide +kernel
theorem dX8_run_75 : decode bX8_run 75 = .ok (.bipush (-15), 2) := by decide +kernel
theorem dX8_run_77 : decode bX8_run 77 = .ok (.if_icmp .ne 20, 3) := by decide +kernel
theorem dX8_run_80 : decode bX8_run 80 = .ok (.iload_n 2, 1) := by decide +kernel
theorem dX8_run_81 : decode bX8_run 81 = .ok (.ifCond .le 14, 3) := by decide +kernel
theorem dX8_run_84 : decode bX8_run 84 = .ok (.aload_n 0, 1) := by decide +kernel
theorem dX8_run_85 : decode bX8_run 85 = .ok (.getfield 38, 3) := by decide +kernel
theorem dX8_run_88 : decode bX8_run 88 = .ok (.iload_n 2, 1) := by decide +kernel
theorem dX8_run_89 : decode bX8_run 89 = .ok (.iconst 1, 1) := by decide +kernel
theorem dX8_run_90 : decode bX8_run 90 = .ok (.isub, 1) := by decide +kernel
theorem dX8_run_91 : decode bX8_run 91 = .ok (.iaload, 1) := by decide +kernel
theorem dX8_run_92 : decode bX8_run 92 = .ok (.goto 4, 3) := by decide +kernel
theorem dX8_run_95 : decode bX8_run 95 = .ok (.iconst 0, 1) := by decide +kernel
theorem dX8_run_96 : decode bX8_run 96 = .ok (.ireturn, 1) := by decide +kernel
theorem dX8_run_97 : decode bX8_run 97 = .ok (.iload_n 2, 1) := by decide +kernel
theorem dX8_run_98 : decode bX8_run 98 = .ok (.iconst 2, 1) := by decide +kernel
theorem dX8_run_99 : decode bX8_run 99 = .ok (.if_icmp .ge 5, 3) := by decide +kernel
theorem dX8_run_102 : decode bX8_run 102 = .ok (.iconst 0, 1) := by decide +kernel
theorem dX8_run_103 : decode bX8_run 103 = .ok (.ireturn, 1) := by decide +kernel
theorem dX8_run_104 : decode bX8_run 104 = .ok (.aload_n 0, 1) := by decide +kernel
theorem dX8_run_105 : decode bX8_run 105 = .ok (.getfield 38, 3) := by decide +kernel
theorem dX8_run_108 : decode bX8_run 108 = .ok (.iload_n 2, 1) := by decide +kernel
theorem dX8_run_109 : decode bX8_run 109 = .ok (.iconst 2, 1) := by decide +kernel
theorem dX8_run_110 : decode bX8_run 110 = .ok (.isub, 1) := by decide +kernel
theorem dX8_run_111 : decode bX8_run 111 = .ok (.iaload, 1) := by decide +kernel
theorem dX8_run_112 : decode bX8_run 112 = .ok (.istore 5, 2) := by decide +kernel
theorem dX8_run_114 : decode bX8_run 114 = .ok (.aload_n 0, 1) := by decide +kernel
theorem dX8_run_115 : decode bX8_run 115 = .ok (.getfield 38, 3) := by decide +kernel
theorem dX8_run_118 : decode bX8_run 118 = .ok (.iload_n 2, 1) := by decide +kernel
theorem dX8_run_119 : decode bX8_run 119 = .ok (.iconst 1, 1) := by decide +kernel
theorem dX8_run_120 : decode bX8_run 120 = .ok (.isub, 1) := by decide +kernel
theorem dX8_run_121 : decode bX8_run 121 = .ok (.iaload, 1) := by decide +kernel
theorem dX8_run_122 : decode bX8_run 122 = .ok (.istore 6, 2) := by decide +kernel
theorem dX8_run_124 : decode bX8_run 124 = .ok (.iload 4, 2) := by decide +kernel
theorem dX8_run_126 : decode bX8_run 126 = .ok (.bipush (-14), 2) := by decide +kernel
theorem dX8_run_128 : decode bX8_run 128 = .ok (.if_icmp .ne 28, 3) := by decide +kernel
theorem dX8_run_131 : decode bX8_run 131 = .ok (.iinc 2 (-2), 3) := by decide +kernel
theorem dX8_run_134 : decode bX8_run 134 = .ok (.iload 5, 2) := by decide +kernel
theorem dX8_run_136 : decode bX8_run 136 = .ok (.iload 6, 2) := by decide +kernel
theorem dX8_run_138 : decode bX8_run 138 = .ok (.if_icmp .ge 9, 3) := by decide +kernel
theorem dX8_run_141 : decode bX8_run 141 = .ok (.iload_n 3, 1) := by decide +kernel
theorem dX8_run_142 : decode bX8_run 142 = .ok (.iconst 1, 1) := by decide +kernel
theorem dX8_run_143 : decode bX8_run 143 = .ok (.iadd, 1) := by decide +kernel
theorem dX8_run_144 : decode bX8_run 144 = .ok (.goto 8, 3) := by decide +kernel
theorem dX8_run_147 : decode bX8_run 147 = .ok (.aload_n 0, 1) := by decide +kernel
theorem dX8_run_148 : decode bX8_run 148 = .ok (.iload_n 3, 1) := by decide +kernel
theorem dX8_run_149 : decode bX8_run 149 = .ok (.invokevirtual 114, 3) := by decide +kernel
theorem dX8_run_152 : decode bX8_run 152 = .ok (.istore_n 3, 1) := by decide +kernel
theorem dX8_run_153 : decode bX8_run 153 = .ok (.goto 37, 3) := by decide +kernel
theorem dX8_run_156 : decode bX8_run 156 = .ok (.iload 4, 2) := by decide +kernel
theorem dX8_run_158 : decode bX8_run 158 = .ok (.bipush (-13), 2) := by decide +kernel
theorem dX8_run_160 : decode bX8_run 160 = .ok (.if_icmp .ne 10, 3) := by decide +kernel
theorem dX8_run_163 : decode bX8_run 163 = .ok (.iload 6, 2) := by decide +kernel
theorem dX8_run_165 : decode bX8_run 165 = .ok (.ifCond .ne 5, 3) := by decide +kernel
theorem dX8_run_168 : decode bX8_run 168 = .ok (.iconst 0, 1) := by decide +kernel
theorem dX8_run_169 : decode bX8_run 169 = .ok (.ireturn, 1) := by decide +kernel
theorem dX8_run_170 : decode bX8_run 170 = .ok (.iinc 2 (-1), 3) := by decide +kernel
theorem dX8_run_173 : decode bX8_run 173 = .ok (.aload_n 0, 1) := by decide +kernel
theorem dX8_run_174 : decode bX8_run 174 = .ok (.getfield 38, 3) := by decide +kernel
theorem dX8_run_177 : decode bX8_run 177 = .ok (.iload_n 2, 1) := by decide +kernel
theorem dX8_run_178 : decode bX8_run 178 = .ok (.iconst 1, 1) := by decide +kernel
theorem dX8_run_179 : decode bX8_run 179 = .ok (.isub, 1) := by decide +kernel
theorem dX8_run_180 : decode bX8_run 180 = .ok (.iload 4, 2) := by decide +kernel
theorem dX8_run_182 : decode bX8_run 182 = .ok (.iload 5, 2) := by decide +kernel
theorem dX8_run_184 : decode bX8_run 184 = .ok (.iload 6, 2) := by decide +kernel
theorem dX8_run_186 : decode bX8_run 186 = .ok (.invokestatic 117, 3) := by decide +kernel
theorem dX8_run_189 : decode bX8_run 189 = .ok (.iastore, 1) := by decide +kernel
theorem dX8_run_190 : decode bX8_run 190 = .ok (.iinc 3 1, 3) := by decide +kernel
theorem dX8_run_193 : decode bX8_run 193 = .ok (.goto (-185), 3) := by decide +kernel
theorem dX8_run_196 : decode bX8_run 196 = .ok (.iconst 0, 1) := by decide +kernel
theorem dX8_run_197 : decode bX8_run 197 = .ok (.ireturn, 1) := by decide +kernel
set_option maxRecDepth 20000 in
set_option maxHeartbeats 4000000 in
theorem cX8_run {l : Launch} {k : Kx} {F : Nat} {this : Nat} {a1 : Int32} {μ μ' : Mm} {r : Int32} (hk : kok k) (e_this : kex k 8 this) (hf : fX8_run F this a1 μ = some (r, μ')) : MM l k 2 yX8_run bX8_run 7 (some .int) [.ref (kad k 8 this), .int a1] μ (some (.int r)) μ' := by
  refine MM.of (lv := [(0, .ref (kad k 8 this)), (1, .int a1)]) (plainFor_of_name (by decide)) hk (Nat.le_of_ble_eq_true rfl) rfl (fun z hl hx => ?_)
  subst hl
  have hx : Ok z k bX8_run 7 "RopeDance$Text" (some .int) 2 (0, 0) := hx
  have L190 : ∀ (K8 : Nat → Int32 → Int32 → Mm → Option (Int32 × Mm)) (HK8 : ∀ (v0 : Nat) (v2 : Int32) (v3 : Int32) (μ : Mm) (e_v0 : kex k 8 v0), K8 v0 v2 v3 μ = some (r, μ') → Gw z k 7 (k, (0, 0), (some .int), (some (.int r)), μ') (0, 0) 8 μ [(0, .ref (kad k 8 v0)), (2, .int v2), (3, .int v3)] []) (v0 : Nat) (v2 : Int32) (v3 : Int32) (μ : Mm) (e_v0 : kex k 8 v0), fX8_run_L190 F K8 v0 v2 v3 μ = some (r, μ') → Gw z k 7 (k, (0, 0), (some .int), (some (.int r)), μ') (0, 0) 190 μ [(0, .ref (kad k 8 v0)), (2, .int v2), (3, .int v3)] [] := by
    intro K8 HK8 v0 v2 v3 μ e_v0 hf
    unfold fX8_run_L190 at hf
    refine r_iinc (lv' := [(3, .int (v3 + 1)), (0, .ref (kad k 8 v0)), (2, .int v2)]) hx 2 rfl (congrArg (fun y => v3 + y) ci_1) (Nat.le_of_ble_eq_true rfl) rfl dX8_run_190 ?_
    refine r_goto (tgt := 8) hx rfl dX8_run_193 ?_
    refine r_sub [1, 2, 0] rfl ?_
    exact HK8 v0 v2 (v3 + 1) μ e_v0 hf
  have L170 : ∀ (K8 : Nat → Int32 → Int32 → Mm → Option (Int32 × Mm)) (HK8 : ∀ (v0 : Nat) (v2 : Int32) (v3 : Int32) (μ : Mm) (e_v0 : kex k 8 v0), K8 v0 v2 v3 μ = some (r, μ') → Gw z k 7 (k, (0, 0), (some .int), (some (.int r)), μ') (0, 0) 8 μ [(0, .ref (kad k 8 v0)), (2, .int v2), (3, .int v3)] []) (v0 : Nat) (v2 : Int32) (v3 : Int32) (v4 : Int32) (v5 : Int32) (v6 : Int32) (μ : Mm) (e_v0 : kex k 8 v0), fX8_run_L170 F K8 v0 v2 v3 v4 v5 v6 μ = some (r, μ') → Gw z k 7 (k, (0, 0), (some .int), (some (.int r)), μ') (0, 0) 170 μ [(0, .ref (kad k 8 v0)), (2, .int v2), (3, .int v3), (4, .int v4), (5, .int v5), (6, .int v6)] [] := by
    intro K8 HK8 v0 v2 v3 v4 v5 v6 μ e_v0 hf
    unfold fX8_run_L170 at hf
    refine r_iinc (lv' := [(2, .int (v2 + (-1))), (0, .ref (kad k 8 v0)), (3, .int v3), (4, .int v4), (5, .int v5), (6, .int v6)]) hx 1 rfl (congrArg (fun y => v2 + y) ci_m1) (Nat.le_of_ble_eq_true rfl) rfl dX8_run_170 ?_
    refine r_aloadn hx 1 rfl rfl dX8_run_173 ?_
    refine r_getR hx (c' := 40) (i' := v0) FK8_11 e_v0 rfl wf_X8_38 dX8_run_174 (fun e13 => ?_)
    refine r_iloadn hx 0 rfl rfl dX8_run_177 ?_
    refine r_iconst hx ci_1 dX8_run_178 ?_
    refine r_isub hx dX8_run_179 ?_
    refine r_iload hx 3 rfl dX8_run_180 ?_
    refine r_iload hx 4 rfl dX8_run_182 ?_
    refine r_iload hx 5 rfl dX8_run_184 ?_
    obtain ⟨r16, μ15, c14, hf⟩ := f_bd2 hf
    refine r_callS hx (As := [.int v4, .int v5, .int v6]) (rest := [.int ((v2 + (-1)) - 1), .ref (kad k 40 v0)]) (st1 := [.int r16, .int ((v2 + (-1)) - 1), .ref (kad k 40 v0)]) MK_X8_work ws_X8_work wm_X8_117 ⟨Nat.le_refl _, Nat.le_refl _⟩ (cX8_work hk c14) (Nat.le_of_ble_eq_true rfl) rfl rfl (Nat.le_of_ble_eq_true rfl) rfl dX8_run_186 (fun hb17 => ?_)
    obtain ⟨b18, hf⟩ := f_chk hf
    refine r_iast hx (by decide) rfl e13 b18 rfl dX8_run_189 ?_
    refine r_sub [1, 0, 2] rfl ?_
    exact L190 _ HK8  v0 (v2 + (-1)) v3 (si μ15 40 v0 ((v2 + (-1)) - 1).toNatClampNeg r16) e_v0 hf
  have L152 : ∀ (K8 : Nat → Int32 → Int32 → Mm → Option (Int32 × Mm)) (HK8 : ∀ (v0 : Nat) (v2 : Int32) (v3 : Int32) (μ : Mm) (e_v0 : kex k 8 v0), K8 v0 v2 v3 μ = some (r, μ') → Gw z k 7 (k, (0, 0), (some .int), (some (.int r)), μ') (0, 0) 8 μ [(0, .ref (kad k 8 v0)), (2, .int v2), (3, .int v3)] []) (v0 : Nat) (v2 : Int32) (s0 : Int32) (μ : Mm) (e_v0 : kex k 8 v0), fX8_run_L152 F K8 v0 v2 s0 μ = some (r, μ') → Gw z k 7 (k, (0, 0), (some .int), (some (.int r)), μ') (0, 0) 152 μ [(0, .ref (kad k 8 v0)), (2, .int v2)] [.int s0] := by
    intro K8 HK8 v0 v2 s0 μ e_v0 hf
    unfold fX8_run_L152 at hf
    refine r_istoren (lv' := [(3, .int s0), (0, .ref (kad k 8 v0)), (2, .int v2)]) hx rfl (Nat.le_of_ble_eq_true rfl) rfl dX8_run_152 ?_
    refine r_goto (tgt := 190) hx rfl dX8_run_153 ?_
    refine r_sub [1, 2, 0] rfl ?_
    exact L190 _ HK8  v0 v2 s0 μ e_v0 hf
  have L66 : ∀ (K8 : Nat → Int32 → Int32 → Mm → Option (Int32 × Mm)) (HK8 : ∀ (v0 : Nat) (v2 : Int32) (v3 : Int32) (μ : Mm) (e_v0 : kex k 8 v0), K8 v0 v2 v3 μ = some (r, μ') → Gw z k 7 (k, (0, 0), (some .int), (some (.int r)), μ') (0, 0) 8 μ [(0, .ref (kad k 8 v0)), (2, .int v2), (3, .int v3)] []) (v0 : Nat) (v2 : Int32) (v3 : Int32) (s0 : Nat) (s1 : Int32) (s2 : Int32) (μ : Mm) (e_v0 : kex k 8 v0) (e_s0 : kex k 40 s0), fX8_run_L66 F K8 v0 v2 v3 s0 s1 s2 μ = some (r, μ') → Gw z k 7 (k, (0, 0), (some .int), (some (.int r)), μ') (0, 0) 66 μ [(0, .ref (kad k 8 v0)), (2, .int v2), (3, .int v3)] [.int s2, .int s1, .ref (kad k 40 s0)] := by
    intro K8 HK8 v0 v2 v3 s0 s1 s2 μ e_v0 e_s0 hf
    unfold fX8_run_L66 at hf
    obtain ⟨b34, hf⟩ := f_chk hf
    refine r_iast hx (by decide) rfl e_s0 b34 rfl dX8_run_66 ?_
    refine r_iinc (lv' := [(2, .int (v2 + 1)), (0, .ref (kad k 8 v0)), (3, .int v3)]) hx 1 rfl (congrArg (fun y => v2 + y) ci_1) (Nat.le_of_ble_eq_true rfl) rfl dX8_run_67 ?_
    refine r_goto (tgt := 190) hx rfl dX8_run_70 ?_
    refine r_sub [1, 0, 2] rfl ?_
    exact L190 _ HK8  v0 (v2 + 1) v3 (si μ 40 s0 s1.toNatClampNeg s2) e_v0 hf
  have L8 : ∀ (n : Nat) (v0 : Nat) (v2 : Int32) (v3 : Int32) (μ : Mm) (e_v0 : kex k 8 v0), fX8_run_L8 F n v0 v2 v3 μ = some (r, μ') → Gw z k 7 (k, (0, 0), (some .int), (some (.int r)), μ') (0, 0) 8 μ [(0, .ref (kad k 8 v0)), (2, .int v2), (3, .int v3)] [] := by
    intro  n
    induction n with
    | zero =>
      intro v0 v2 v3 μ e_v0 hf
      exact f_no (show (none : Option (Int32 × Mm)) = _ from hf)
    | succ n ih =>
      intro v0 v2 v3 μ e_v0 hf
      rw [fX8_run_L8] at hf
      refine r_iloadn hx 2 rfl rfl dX8_run_8 ?_
      refine r_aloadn hx 0 rfl rfl dX8_run_9 ?_
      refine r_getI hx FK8_5 e_v0 wf_X8_64 dX8_run_10 ?_
      refine r_icge (tgt := 196) hx rfl dX8_run_13 (fun q1 => ?_) (fun q1 => ?_)
      · have hf := (f_ite hf).1 q1
        refine r_iconst hx ci_0 dX8_run_196 ?_
        exact r_iret hx hf dX8_run_197
      · have hf := (f_ite hf).2 q1
        refine r_aloadn hx 0 rfl rfl dX8_run_16 ?_
        refine r_getR hx (c' := 37) (i' := v0) FK8_8 e_v0 rfl wf_X8_25 dX8_run_17 (fun e2 => ?_)
        refine r_iloadn hx 2 rfl rfl dX8_run_20 ?_
        obtain ⟨b3, hf⟩ := f_chk hf
        refine r_iald hx (by decide) rfl e2 b3 rfl dX8_run_21 ?_
        refine r_istore (lv' := [(4, .int (gi μ 37 v0 v3.toNatClampNeg)), (0, .ref (kad k 8 v0)), (2, .int v2), (3, .int v3)]) hx (Nat.le_of_ble_eq_true rfl) rfl dX8_run_22 ?_
        refine r_iload hx 0 rfl dX8_run_24 ?_
        refine r_bipush hx cb_m10 dX8_run_26 ?_
        refine r_icle (tgt := 73) hx rfl dX8_run_28 (fun q4 => ?_) (fun q4 => ?_)
        · have hf := (f_ite hf).1 q4
          refine r_iload hx 0 rfl dX8_run_73 ?_
          refine r_bipush hx cb_m15 dX8_run_75 ?_
          refine r_icne (tgt := 97) hx rfl dX8_run_77 (fun q5 => ?_) (fun q5 => ?_)
          · have hf := (f_ite hf).2 q5
            refine r_iloadn hx 2 rfl rfl dX8_run_97 ?_
            refine r_iconst hx ci_2 dX8_run_98 ?_
            refine r_icge (tgt := 104) hx rfl dX8_run_99 (fun q6 => ?_) (fun q6 => ?_)
            · have hf := (f_ite hf).1 q6
              refine r_aloadn hx 1 rfl rfl dX8_run_104 ?_
              refine r_getR hx (c' := 40) (i' := v0) FK8_11 e_v0 rfl wf_X8_38 dX8_run_105 (fun e7 => ?_)
              refine r_iloadn hx 2 rfl rfl dX8_run_108 ?_
              refine r_iconst hx ci_2 dX8_run_109 ?_
              refine r_isub hx dX8_run_110 ?_
              obtain ⟨b8, hf⟩ := f_chk hf
              refine r_iald hx (by decide) rfl e7 b8 rfl dX8_run_111 ?_
              refine r_istore (lv' := [(5, .int (gi μ 40 v0 (v2 - 2).toNatClampNeg)), (4, .int (gi μ 37 v0 v3.toNatClampNeg)), (0, .ref (kad k 8 v0)), (2, .int v2), (3, .int v3)]) hx (Nat.le_of_ble_eq_true rfl) rfl dX8_run_112 ?_
              refine r_aloadn hx 2 rfl rfl dX8_run_114 ?_
              refine r_getR hx (c' := 40) (i' := v0) FK8_11 e_v0 rfl wf_X8_38 dX8_run_115 (fun e9 => ?_)
              refine r_iloadn hx 3 rfl rfl dX8_run_118 ?_
              refine r_iconst hx ci_1 dX8_run_119 ?_
              refine r_isub hx dX8_run_120 ?_
              obtain ⟨b10, hf⟩ := f_chk hf
              refine r_iald hx (by decide) rfl e9 b10 rfl dX8_run_121 ?_
              refine r_istore (lv' := [(6, .int (gi μ 40 v0 (v2 - 1).toNatClampNeg)), (5, .int (gi μ 40 v0 (v2 - 2).toNatClampNeg)), (4, .int (gi μ 37 v0 v3.toNatClampNeg)), (0, .ref (kad k 8 v0)), (2, .int v2), (3, .int v3)]) hx (Nat.le_of_ble_eq_true rfl) rfl dX8_run_122 ?_
              refine r_iload hx 2 rfl dX8_run_124 ?_
              refine r_bipush hx cb_m14 dX8_run_126 ?_
              refine r_icne (tgt := 156) hx rfl dX8_run_128 (fun q11 => ?_) (fun q11 => ?_)
              · have hf := (f_ite hf).2 q11
                refine r_iload hx 2 rfl dX8_run_156 ?_
                refine r_bipush hx cb_m13 dX8_run_158 ?_
                refine r_icne (tgt := 170) hx rfl dX8_run_160 (fun q12 => ?_) (fun q12 => ?_)
                · have hf := (f_ite hf).2 q12
                  refine r_sub [3, 4, 5, 2, 1, 0] rfl ?_
                  exact L170 _ ih  v0 v2 v3 (gi μ 37 v0 v3.toNatClampNeg) (gi μ 40 v0 (v2 - 2).toNatClampNeg) (gi μ 40 v0 (v2 - 1).toNatClampNeg) μ e_v0 hf
                · have hf := (f_ite hf).1 q12
                  refine r_iload hx 0 rfl dX8_run_163 ?_
                  refine r_ifne (tgt := 170) hx rfl dX8_run_165 (fun q19 => ?_) (fun q19 => ?_)
                  · have hf := (f_ite hf).2 q19
                    refine r_sub [3, 4, 5, 2, 1, 0] rfl ?_
                    exact L170 _ ih  v0 v2 v3 (gi μ 37 v0 v3.toNatClampNeg) (gi μ 40 v0 (v2 - 2).toNatClampNeg) (gi μ 40 v0 (v2 - 1).toNatClampNeg) μ e_v0 hf
                  · have hf := (f_ite hf).1 q19
                    refine r_iconst hx ci_0 dX8_run_168 ?_
                    exact r_iret hx hf dX8_run_169
              · have hf := (f_ite hf).1 q11
                refine r_iinc (lv' := [(2, .int (v2 + (-2))), (6, .int (gi μ 40 v0 (v2 - 1).toNatClampNeg)), (5, .int (gi μ 40 v0 (v2 - 2).toNatClampNeg)), (4, .int (gi μ 37 v0 v3.toNatClampNeg)), (0, .ref (kad k 8 v0)), (3, .int v3)]) hx 4 rfl (congrArg (fun y => v2 + y) ci_m2) (Nat.le_of_ble_eq_true rfl) rfl dX8_run_131 ?_
                refine r_iload hx 2 rfl dX8_run_134 ?_
                refine r_iload hx 1 rfl dX8_run_136 ?_
                refine r_icge (tgt := 147) hx rfl dX8_run_138 (fun q20 => ?_) (fun q20 => ?_)
                · have hf := (f_ite hf).1 q20
                  refine r_aloadn hx 4 rfl rfl dX8_run_147 ?_
                  refine r_iloadn hx 5 rfl rfl dX8_run_148 ?_
                  obtain ⟨r23, μ22, c21, hf⟩ := f_bd2 hf
                  refine r_callV hx (As := [.int v3]) (rest := []) (st1 := [.int r23]) (c := 8) (i := v0) (TT := T8) (N := 13) MK_X8_jump rfl wi_X8_jump we_X8_jump wm_X8_114 ⟨Nat.le_refl _, Nat.le_refl _⟩ (cX8_jump hk e_v0 c21) e_v0 (Nat.le_of_ble_eq_true rfl) rfl rfl (Nat.le_of_ble_eq_true rfl) rfl dX8_run_149 (fun hb24 => ?_)
                  refine r_sub [4, 0] rfl ?_
                  exact L152 _ ih  v0 (v2 + (-2)) r23 μ22 e_v0 hf
                · have hf := (f_ite hf).2 q20
                  refine r_iloadn hx 5 rfl rfl dX8_run_141 ?_
                  refine r_iconst hx ci_1 dX8_run_142 ?_
                  refine r_iadd hx dX8_run_143 ?_
                  refine r_goto (tgt := 152) hx rfl dX8_run_144 ?_
                  refine r_sub [4, 0] rfl ?_
                  exact L152 _ ih  v0 (v2 + (-2)) (v3 + 1) μ e_v0 hf
            · have hf := (f_ite hf).2 q6
              refine r_iconst hx ci_0 dX8_run_102 ?_
              exact r_iret hx hf dX8_run_103
          · have hf := (f_ite hf).1 q5
            refine r_iloadn hx 2 rfl rfl dX8_run_80 ?_
            refine r_ifle (tgt := 95) hx rfl dX8_run_81 (fun q25 => ?_) (fun q25 => ?_)
            · have hf := (f_ite hf).1 q25
              refine r_iconst hx ci_0 dX8_run_95 ?_
              exact r_iret hx hf dX8_run_96
            · have hf := (f_ite hf).2 q25
              refine r_aloadn hx 1 rfl rfl dX8_run_84 ?_
              refine r_getR hx (c' := 40) (i' := v0) FK8_11 e_v0 rfl wf_X8_38 dX8_run_85 (fun e26 => ?_)
              refine r_iloadn hx 2 rfl rfl dX8_run_88 ?_
              refine r_iconst hx ci_1 dX8_run_89 ?_
              refine r_isub hx dX8_run_90 ?_
              obtain ⟨b27, hf⟩ := f_chk hf
              refine r_iald hx (by decide) rfl e26 b27 rfl dX8_run_91 ?_
              refine r_goto (tgt := 96) hx rfl dX8_run_92 ?_
              exact r_iret hx hf dX8_run_96
        · have hf := (f_ite hf).2 q4
          refine r_iloadn hx 2 rfl rfl dX8_run_31 ?_
          refine r_aloadn hx 1 rfl rfl dX8_run_32 ?_
          refine r_getR hx (c' := 40) (i' := v0) FK8_11 e_v0 rfl wf_X8_38 dX8_run_33 (fun e28 => ?_)
          refine r_alen (v := 32) hx (by decide) (by decide) e28 (by decide) dX8_run_36 ?_
          refine r_iclt (tgt := 42) hx rfl dX8_run_37 (fun q29 => ?_) (fun q29 => ?_)
          · have hf := (f_ite hf).1 q29
            refine r_aloadn hx 1 rfl rfl dX8_run_42 ?_
            refine r_getR hx (c' := 40) (i' := v0) FK8_11 e_v0 rfl wf_X8_38 dX8_run_43 (fun e30 => ?_)
            refine r_iloadn hx 2 rfl rfl dX8_run_46 ?_
            refine r_iload hx 0 rfl dX8_run_47 ?_
            refine r_iflt (tgt := 57) hx rfl dX8_run_49 (fun q31 => ?_) (fun q31 => ?_)
            · have hf := (f_ite hf).1 q31
              refine r_aloadn hx 1 rfl rfl dX8_run_57 ?_
              refine r_getR hx (c' := 39) (i' := v0) FK8_10 e_v0 rfl wf_X8_35 dX8_run_58 (fun e32 => ?_)
              refine r_iconst hx ci_m1 dX8_run_61 ?_
              refine r_iload hx 0 rfl dX8_run_62 ?_
              refine r_isub hx dX8_run_64 ?_
              obtain ⟨b33, hf⟩ := f_chk hf
              refine r_iald hx (by decide) rfl e32 b33 rfl dX8_run_65 ?_
              refine r_sub [1, 2, 3] rfl ?_
              exact L66 _ ih  v0 v2 v3 v0 v2 (gi μ 39 v0 ((-1) - (gi μ 37 v0 v3.toNatClampNeg)).toNatClampNeg) μ e_v0 e30 hf
            · have hf := (f_ite hf).2 q31
              refine r_iload hx 0 rfl dX8_run_52 ?_
              refine r_goto (tgt := 66) hx rfl dX8_run_54 ?_
              refine r_sub [1, 2, 3] rfl ?_
              exact L66 _ ih  v0 v2 v3 v0 v2 (gi μ 37 v0 v3.toNatClampNeg) μ e_v0 e30 hf
          · have hf := (f_ite hf).2 q29
            refine r_iconst hx ci_0 dX8_run_40 ?_
            exact r_iret hx hf dX8_run_41
  unfold fX8_run at hf
  refine r_iconst hx ci_0 dX8_run_0 ?_
  refine r_istoren (lv' := [(2, .int 0), (0, .ref (kad k 8 this)), (1, .int a1)]) hx rfl (Nat.le_of_ble_eq_true rfl) rfl dX8_run_1 ?_
  refine r_iconst hx ci_0 dX8_run_2 ?_
  refine r_iloadn hx 2 rfl rfl dX8_run_3 ?_
  refine r_mmax hx wm_X8_111 xws_max xwm xwk_max ⟨Nat.le_refl _, Nat.le_refl _⟩ (Nat.le_of_ble_eq_true rfl) (Nat.le_of_ble_eq_true rfl) dX8_run_4 ?_
  refine r_istoren (lv' := [(3, .int (mx 0 a1)), (2, .int 0), (0, .ref (kad k 8 this)), (1, .int a1)]) hx rfl (Nat.le_of_ble_eq_true rfl) rfl dX8_run_7 ?_
  refine r_sub [2, 1, 0] rfl ?_
  exact L8 F this 0 (mx 0 a1) μ e_this hf
theorem dX8_worth_0 : decode bX8_worth 0 = .ok (.iload_n 1, 1) := by decide +kernel
theorem dX8_worth_1 : decode bX8_worth 1 = .ok (.ifCond .lt 11, 3) := by decide +kernel
theorem dX8_worth_4 : decode bX8_worth 4 = .ok (.iload_n 1, 1) := by decide +kernel
theorem dX8_worth_5 : decode bX8_worth 5 = .ok (.getstatic 29, 3) := by decide +kernel
theorem dX8_worth_8 : decode bX8_worth 8 = .ok (.arraylength, 1) := by decide +kernel
theorem dX8_worth_9 : decode bX8_worth 9 = .ok (.if_icmp .lt 5, 3) := by decide +kernel
theorem dX8_worth_12 : decode bX8_worth 12 = .ok (.iconst 0, 1) := by decide +kernel
theorem dX8_worth_13 : decode bX8_worth 13 = .ok (.ireturn, 1) := by decide +kernel
theorem dX8_worth_14 : decode bX8_worth 14 = .ok (.aload_n 0, 1) := by decide +kernel
theorem dX8_worth_15 : decode bX8_worth 15 = .ok (.getfield 35, 3) := by decide +kernel
theorem dX8_worth_18 : decode bX8_worth 18 = .ok (.iconst 0, 1) := by decide +kernel
theorem dX8_worth_19 : decode bX8_worth 19 = .ok (.aload_n 2, 1) := by decide +kernel
theorem dX8_worth_20 : decode bX8_worth 20 = .ok (.getfield 79, 3) := by decide +kernel
theorem dX8_worth_23 : decode bX8_worth 23 = .ok (.invokestatic 82, 3) := by decide +kernel
theorem dX8_worth_26 : decode bX8_worth 26 = .ok (.iastore, 1) := by decide +kernel
theorem dX8_worth_27 : decode bX8_worth 27 = .ok (.aload_n 0, 1) := by decide +kernel
theorem dX8_worth_28 : decode bX8_worth 28 = .ok (.getfield 35, 3) := by decide +kernel
theorem dX8_worth_31 : decode bX8_worth 31 = .ok (.iconst 1, 1) := by decide +kernel
theorem dX8_worth_32 : decode bX8_worth 32 = .ok (.aload_n 2, 1) := by decide +kernel
theorem dX8_worth_33 : decode bX8_worth 33 = .ok (.getfield 88, 3) := by decide +kernel
theorem dX8_worth_36 : decode bX8_worth 36 = .ok (.iastore, 1) := by decide +kernel
theorem dX8_worth_37 : decode bX8_worth 37 = .ok (.aload_n 0, 1) := by decide +kernel
theorem dX8_worth_38 : decode bX8_worth 38 = .ok (.getfield 35, 3) := by decide +kernel
theorem dX8_worth_41 : decode bX8_worth 41 = .ok (.iconst 2, 1) := by decide +kernel
theorem dX8_worth_42 : decode bX8_worth 42 = .ok (.aload_n 2, 1) := by decide +kernel
theorem dX8_worth_43 : decode bX8_worth 43 = .ok (.invokevirtual 91, 3) := by decide +kernel
theorem dX8_worth_46 : decode bX8_worth 46 = .ok (.iastore, 1) := by decide +kernel
theorem dX8_worth_47 : decode bX8_worth 47 = .ok (.aload_n 0, 1) := by decide +kernel
theorem dX8_worth_48 : decode bX8_worth 48 = .ok (.getfield 35, 3) := by decide +kernel
theorem dX8_worth_51 : decode bX8_worth 51 = .ok (.iconst 3, 1) := by decide +kernel
theorem dX8_worth_52 : decode bX8_worth 52 = .ok (.aload_n 2, 1) := by decide +kernel
theorem dX8_worth_53 : decode bX8_worth 53 = .ok (.invokevirtual 95, 3) := by decide +kernel
theorem dX8_worth_56 : decode bX8_worth 56 = .ok (.iastore, 1) := by decide +kernel
theorem dX8_worth_57 : decode bX8_worth 57 = .ok (.aload_n 0, 1) := by decide +kernel
theorem dX8_worth_58 : decode bX8_worth 58 = .ok (.getfield 35, 3) := by decide +kernel
theorem dX8_worth_61 : decode bX8_worth 61 = .ok (.iconst 4, 1) := by decide +kernel
theorem dX8_worth_62 : decode bX8_worth 62 = .ok (.aload_n 2, 1) := by decide +kernel
theorem dX8_worth_63 : decode bX8_worth 63 = .ok (.getfield 98, 3) := by decide +kernel
theorem dX8_worth_66 : decode bX8_worth 66 = .ok (.iastore, 1) := by decide +kernel
theorem dX8_worth_67 : decode bX8_worth 67 = .ok (.aload_n 0, 1) := by decide +kernel
theorem dX8_worth_68 : decode bX8_worth 68 = .ok (.getfield 35, 3) := by decide +kernel
theorem dX8_worth_71 : decode bX8_worth 71 = .ok (.iconst 5, 1) := by decide +kernel
theorem dX8_worth_72 : decode bX8_worth 72 = .ok (.iload 4, 2) := by decide +kernel
theorem dX8_worth_74 : decode bX8_worth 74 = .ok (.iastore, 1) := by decide +kernel
theorem dX8_worth_75 : decode bX8_worth 75 = .ok (.aload_n 0, 1) := by decide +kernel
theorem dX8_worth_76 : decode bX8_worth 76 = .ok (.getfield 35, 3) := by decide +kernel
theorem dX8_worth_79 : decode bX8_worth 79 = .ok (.bipush 6, 2) := by decide +kernel
theorem dX8_worth_81 : decode bX8_worth 81 = .ok (.iload_n 3, 1) := by decide +kernel
theorem dX8_worth_82 : decode bX8_worth 82 = .ok (.iastore, 1) := by decide +kernel
theorem dX8_worth_83 : decode bX8_worth 83 = .ok (.aload_n 0, 1) := by decide +kernel
theorem dX8_worth_84 : decode bX8_worth 84 = .ok (.getfield 35, 3) := by decide +kernel
theorem dX8_worth_87 : decode bX8_worth 87 = .ok (.bipush 7, 2) := by decide +kernel
theorem dX8_worth_89 : decode bX8_worth 89 = .ok (.iload 5, 2) := by decide +kernel
theorem dX8_worth_91 : decode bX8_worth 91 = .ok (.iastore, 1) := by decide +kernel
theorem dX8_worth_92 : decode bX8_worth 92 = .ok (.aload_n 0, 1) := by decide +kernel
theorem dX8_worth_93 : decode bX8_worth 93 = .ok (.getfield 35, 3) := by decide +kernel
theorem dX8_worth_96 : decode bX8_worth 96 = .ok (.bipush 8, 2) := by decide +kernel
theorem dX8_worth_98 : decode bX8_worth 98 = .ok (.aload_n 2, 1) := by decide +kernel
theorem dX8_worth_99 : decode bX8_worth 99 = .ok (.getfield 101, 3) := by decide +kernel
theorem dX8_worth_102 : decode bX8_worth 102 = .ok (.iastore, 1) := by decide +kernel
theorem dX8_worth_103 : decode bX8_worth 103 = .ok (.iconst 0, 1) := by decide +kernel
theorem dX8_worth_104 : decode bX8_worth 104 = .ok (.getstatic 29, 3) := by decide +kernel
theorem dX8_worth_107 : decode bX8_worth 107 = .ok (.iload_n 1, 1) := by decide +kernel
theorem dX8_worth_108 : decode bX8_worth 108 = .ok (.iaload, 1) := by decide +kernel
theorem dX8_worth_109 : decode bX8_worth 109 = .ok (.aload_n 0, 1) := by decide +kernel
theorem dX8_worth_110 : decode bX8_worth 110 = .ok (.aload_n 0, 1) := by decide +kernel
theorem dX8_worth_111 : decode bX8_worth 111 = .ok (.getfield 32, 3) := by decide +kernel
theorem dX8_worth_114 : decode bX8_worth 114 = .ok (.iload_n 1, 1) := by decide +kernel
theorem dX8_worth_115 : decode bX8_worth 115 = .ok (.iaload, 1) := by decide +kernel
theorem dX8_worth_116 : decode bX8_worth 116 = .ok (.invokevirtual 104, 3) := by decide +kernel
theorem dX8_worth_119 : decode bX8_worth 119 = .ok (.invokestatic 107, 3) := by decide +kernel
theorem dX8_worth_122 : decode bX8_worth 122 = .ok (.invokestatic 111, 3) := by decide +kernel
theorem dX8_worth_125 : decode bX8_worth 125 = .ok (.ireturn, 1) := by decide +kernel
set_option maxRecDepth 20000 in
set_option maxHeartbeats 4000000 in
theorem cX8_worth {l : Launch} {k : Kx} {F : Nat} {this : Nat} {a1 : Int32} {a2 : Nat} {a3 : Int32} {a4 : Int32} {a5 : Int32} {μ μ' : Mm} {r : Int32} (hk : kok k) (e_this : kex k 8 this) (e_a2 : kex k 5 a2) (hf : fX8_worth F this a1 a2 a3 a4 a5 μ = some (r, μ')) : MM l k 3 yX8_worth bX8_worth 6 (some .int) [.ref (kad k 8 this), .int a1, .ref (kad k 5 a2), .int a3, .int a4, .int a5] μ (some (.int r)) μ' := by
  refine MM.of (lv := [(0, .ref (kad k 8 this)), (1, .int a1), (2, .ref (kad k 5 a2)), (3, .int a3), (4, .int a4), (5, .int a5)]) (plainFor_of_name (by decide)) hk (Nat.le_of_ble_eq_true rfl) rfl (fun z hl hx => ?_)
  subst hl
  have hx : Ok z k bX8_worth 6 "RopeDance$Text" (some .int) 3 (0, 0) := hx
  unfold fX8_worth at hf
  refine r_iloadn hx 1 rfl rfl dX8_worth_0 ?_
  refine r_iflt (tgt := 12) hx rfl dX8_worth_1 (fun q1 => ?_) (fun q1 => ?_)
  · have hf := (f_ite hf).1 q1
    refine r_iconst hx ci_0 dX8_worth_12 ?_
    exact r_iret hx hf dX8_worth_13
  · have hf := (f_ite hf).2 q1
    refine r_iloadn hx 1 rfl rfl dX8_worth_4 ?_
    refine r_gets hx wf_X8_29 dX8_worth_5 ?_
    refine r_tlen hx dX8_worth_8 ?_
    refine r_iclt (tgt := 14) hx rfl dX8_worth_9 (fun q2 => ?_) (fun q2 => ?_)
    · have hf := (f_ite hf).1 q2
      refine r_aloadn hx 0 rfl rfl dX8_worth_14 ?_
      refine r_getR hx (c' := 39) (i' := this) FK8_10 e_this rfl wf_X8_35 dX8_worth_15 (fun e3 => ?_)
      refine r_iconst hx ci_0 dX8_worth_18 ?_
      refine r_aloadn hx 2 rfl rfl dX8_worth_19 ?_
      refine r_getI hx FK5_0 e_a2 wf_X8_79 dX8_worth_20 ?_
      refine r_mabs hx wm_X8_82 xws_abs xwm xwk_abs ⟨Nat.le_refl _, Nat.le_refl _⟩ (Nat.le_of_ble_eq_true rfl) (Nat.le_of_ble_eq_true rfl) dX8_worth_23 ?_
      refine r_iast hx (by decide) rfl e3 (by decide) ti_0 dX8_worth_26 ?_
      refine r_aloadn hx 0 rfl rfl dX8_worth_27 ?_
      refine r_getR hx (c' := 39) (i' := this) FK8_10 e_this rfl wf_X8_35 dX8_worth_28 (fun e4 => ?_)
      refine r_iconst hx ci_1 dX8_worth_31 ?_
      refine r_aloadn hx 2 rfl rfl dX8_worth_32 ?_
      refine r_getI hx FK5_1 e_a2 wf_X8_88 dX8_worth_33 ?_
      refine r_iast hx (by decide) rfl e4 (by decide) ti_1 dX8_worth_36 ?_
      refine r_aloadn hx 0 rfl rfl dX8_worth_37 ?_
      refine r_getR hx (c' := 39) (i' := this) FK8_10 e_this rfl wf_X8_35 dX8_worth_38 (fun e5 => ?_)
      refine r_iconst hx ci_2 dX8_worth_41 ?_
      refine r_aloadn hx 2 rfl rfl dX8_worth_42 ?_
      obtain ⟨r8, μ7, c6, hf⟩ := f_bd2 hf
      refine r_callV hx (As := []) (rest := [.int 2, .ref (kad k 39 this)]) (st1 := [.int r8, .int 2, .ref (kad k 39 this)]) (c := 5) (i := a2) (TT := T5) (N := 4) MK_X5_crossings rfl wi_X5_crossings we_X5_crossings wm_X8_91 ⟨Nat.le_refl _, Nat.le_refl _⟩ (cX5_crossings hk e_a2 c6) e_a2 (Nat.le_of_ble_eq_true rfl) rfl rfl (Nat.le_of_ble_eq_true rfl) rfl dX8_worth_43 (fun hb9 => ?_)
      refine r_iast hx (by decide) rfl e5 (by decide) ti_2 dX8_worth_46 ?_
      refine r_aloadn hx 0 rfl rfl dX8_worth_47 ?_
      refine r_getR hx (c' := 39) (i' := this) FK8_10 e_this rfl wf_X8_35 dX8_worth_48 (fun e10 => ?_)
      refine r_iconst hx ci_3 dX8_worth_51 ?_
      refine r_aloadn hx 2 rfl rfl dX8_worth_52 ?_
      obtain ⟨r13, μ12, c11, hf⟩ := f_bd2 hf
      refine r_callV hx (As := []) (rest := [.int 3, .ref (kad k 39 this)]) (st1 := [.int r13, .int 3, .ref (kad k 39 this)]) (c := 5) (i := a2) (TT := T5) (N := 4) MK_X5_ends rfl wi_X5_ends we_X5_ends wm_X8_95 ⟨Nat.le_refl _, Nat.le_refl _⟩ (cX5_ends hk e_a2 c11) e_a2 (Nat.le_of_ble_eq_true rfl) rfl rfl (Nat.le_of_ble_eq_true rfl) rfl dX8_worth_53 (fun hb14 => ?_)
      refine r_iast hx (by decide) rfl e10 (by decide) ti_3 dX8_worth_56 ?_
      refine r_aloadn hx 0 rfl rfl dX8_worth_57 ?_
      refine r_getR hx (c' := 39) (i' := this) FK8_10 e_this rfl wf_X8_35 dX8_worth_58 (fun e15 => ?_)
      refine r_iconst hx ci_4 dX8_worth_61 ?_
      refine r_aloadn hx 2 rfl rfl dX8_worth_62 ?_
      refine r_getI hx FK5_2 e_a2 wf_X8_98 dX8_worth_63 ?_
      refine r_iast hx (by decide) rfl e15 (by decide) ti_4 dX8_worth_66 ?_
      refine r_aloadn hx 0 rfl rfl dX8_worth_67 ?_
      refine r_getR hx (c' := 39) (i' := this) FK8_10 e_this rfl wf_X8_35 dX8_worth_68 (fun e16 => ?_)
      refine r_iconst hx ci_5 dX8_worth_71 ?_
      refine r_iload hx 4 rfl dX8_worth_72 ?_
      refine r_iast hx (by decide) rfl e16 (by decide) ti_5 dX8_worth_74 ?_
      refine r_aloadn hx 0 rfl rfl dX8_worth_75 ?_
      refine r_getR hx (c' := 39) (i' := this) FK8_10 e_this rfl wf_X8_35 dX8_worth_76 (fun e17 => ?_)
      refine r_bipush hx cb_6 dX8_worth_79 ?_
      refine r_iloadn hx 3 rfl rfl dX8_worth_81 ?_
      refine r_iast hx (by decide) rfl e17 (by decide) ti_6 dX8_worth_82 ?_
      refine r_aloadn hx 0 rfl rfl dX8_worth_83 ?_
      refine r_getR hx (c' := 39) (i' := this) FK8_10 e_this rfl wf_X8_35 dX8_worth_84 (fun e18 => ?_)
      refine r_bipush hx cb_7 dX8_worth_87 ?_
      refine r_iload hx 5 rfl dX8_worth_89 ?_
      refine r_iast hx (by decide) rfl e18 (by decide) ti_7 dX8_worth_91 ?_
      refine r_aloadn hx 0 rfl rfl dX8_worth_92 ?_
      refine r_getR hx (c' := 39) (i' := this) FK8_10 e_this rfl wf_X8_35 dX8_worth_93 (fun e19 => ?_)
      refine r_bipush hx cb_8 dX8_worth_96 ?_
      refine r_aloadn hx 2 rfl rfl dX8_worth_98 ?_
      refine r_getI hx FK5_3 e_a2 wf_X8_101 dX8_worth_99 ?_
      refine r_iast hx (by decide) rfl e19 (by decide) ti_8 dX8_worth_102 ?_
      refine r_iconst hx ci_0 dX8_worth_103 ?_
      refine r_gets hx wf_X8_29 dX8_worth_104 ?_
      refine r_iloadn hx 1 rfl rfl dX8_worth_107 ?_
      obtain ⟨b20, hf⟩ := f_chk hf
      refine r_tald hx b20 rfl dX8_worth_108 ?_
      refine r_aloadn hx 0 rfl rfl dX8_worth_109 ?_
      refine r_aloadn hx 0 rfl rfl dX8_worth_110 ?_
      refine r_getR hx (c' := 38) (i' := this) FK8_9 e_this rfl wf_X8_32 dX8_worth_111 (fun e21 => ?_)
      refine r_iloadn hx 1 rfl rfl dX8_worth_114 ?_
      refine r_iald hx (by decide) rfl e21 b20 rfl dX8_worth_115 ?_
      obtain ⟨r24, μ23, c22, hf⟩ := f_bd2 hf
      refine r_callV hx (As := [.int (gi (si (si (si (si (si (si μ12 39 this 3 r13) 39 this 4 (gi (si μ12 39 this 3 r13) 5 a2 2)) 39 this 5 a4) 39 this 6 a3) 39 this 7 a5) 39 this 8 (gi (si (si (si (si (si μ12 39 this 3 r13) 39 this 4 (gi (si μ12 39 this 3 r13) 5 a2 2)) 39 this 5 a4) 39 this 6 a3) 39 this 7 a5) 5 a2 3)) 38 this a1.toNatClampNeg)]) (rest := [.int (mostW.getD a1.toNatClampNeg 0), .int 0]) (st1 := [.int r24, .int (mostW.getD a1.toNatClampNeg 0), .int 0]) (c := 8) (i := this) (TT := T8) (N := 13) MK_X8_run rfl wi_X8_run we_X8_run wm_X8_104 ⟨Nat.le_refl _, Nat.le_refl _⟩ (cX8_run hk e_this c22) e_this (Nat.le_of_ble_eq_true rfl) rfl rfl (Nat.le_of_ble_eq_true rfl) rfl dX8_worth_116 (fun hb25 => ?_)
      refine r_mmin hx wm_X8_107 xws_min xwm xwk_min ⟨Nat.le_refl _, Nat.le_refl _⟩ (Nat.le_of_ble_eq_true rfl) (Nat.le_of_ble_eq_true rfl) dX8_worth_119 ?_
      refine r_mmax hx wm_X8_111 xws_max xwm xwk_max ⟨Nat.le_refl _, Nat.le_refl _⟩ (Nat.le_of_ble_eq_true rfl) (Nat.le_of_ble_eq_true rfl) dX8_worth_122 ?_
      exact r_iret hx hf dX8_worth_125
    · have hf := (f_ite hf).2 q2
      refine r_iconst hx ci_0 dX8_worth_12 ?_
      exact r_iret hx hf dX8_worth_13
theorem dX8_mixed_0 : decode bX8_mixed 0 = .ok (.iload_n 0, 1) := by decide +kernel
theorem dX8_mixed_1 : decode bX8_mixed 1 = .ok (.iload_n 1, 1) := by decide +kernel
theorem dX8_mixed_2 : decode bX8_mixed 2 = .ok (.ixor, 1) := by decide +kernel
theorem dX8_mixed_3 : decode bX8_mixed 3 = .ok (.ldc 147, 2) := by decide +kernel
theorem dX8_mixed_5 : decode bX8_mixed 5 = .ok (.imul, 1) := by decide +kernel
theorem dX8_mixed_6 : decode bX8_mixed 6 = .ok (.sipush 12345, 3) := by decide +kernel
theorem dX8_mixed_9 : decode bX8_mixed 9 = .ok (.iadd, 1) := by decide +kernel
theorem dX8_mixed_10 : decode bX8_mixed 10 = .ok (.istore_n 2, 1) := by decide +kernel
theorem dX8_mixed_11 : decode bX8_mixed 11 = .ok (.iload_n 2, 1) := by decide +kernel
theorem dX8_mixed_12 : decode bX8_mixed 12 = .ok (.iload_n 2, 1) := by decide +kernel
theorem dX8_mixed_13 : decode bX8_mixed 13 = .ok (.bipush 15, 2) := by decide +kernel
theorem dX8_mixed_15 : decode bX8_mixed 15 = .ok (.iushr, 1) := by decide +kernel
theorem dX8_mixed_16 : decode bX8_mixed 16 = .ok (.ixor, 1) := by decide +kernel
theorem dX8_mixed_17 : decode bX8_mixed 17 = .ok (.ireturn, 1) := by decide +kernel
set_option maxRecDepth 20000 in
set_option maxHeartbeats 4000000 in
theorem cX8_mixed {l : Launch} {k : Kx} {F : Nat} {a0 : Int32} {a1 : Int32} {μ μ' : Mm} {r : Int32} (hk : kok k) (hf : fX8_mixed F a0 a1 μ = some (r, μ')) : MM l k 0 yX8_mixed bX8_mixed 3 (some .int) [.int a0, .int a1] μ (some (.int r)) μ' := by
  refine MM.of (lv := [(0, .int a0), (1, .int a1)]) (plainFor_of_name (by decide)) hk (Nat.le_of_ble_eq_true rfl) rfl (fun z hl hx => ?_)
  subst hl
  have hx : Ok z k bX8_mixed 3 "RopeDance$Text" (some .int) 0 (0, 0) := hx
  unfold fX8_mixed at hf
  refine r_iloadn hx 0 rfl rfl dX8_mixed_0 ?_
  refine r_iloadn hx 1 rfl rfl dX8_mixed_1 ?_
  refine r_ixor hx dX8_mixed_2 ?_
  refine r_ldc hx wc_X8_147 dX8_mixed_3 ?_
  refine r_imul hx dX8_mixed_5 ?_
  refine r_sipush hx cs_12345 dX8_mixed_6 ?_
  refine r_iadd hx dX8_mixed_9 ?_
  refine r_istoren (lv' := [(2, .int (((a0 ^^^ a1) * 1103515245) + 12345)), (0, .int a0), (1, .int a1)]) hx rfl (Nat.le_of_ble_eq_true rfl) rfl dX8_mixed_10 ?_
  refine r_iloadn hx 0 rfl rfl dX8_mixed_11 ?_
  refine r_iloadn hx 0 rfl rfl dX8_mixed_12 ?_
  refine r_bipush hx cb_15 dX8_mixed_13 ?_
  refine r_iushr hx dX8_mixed_15 ?_
  refine r_ixor hx dX8_mixed_16 ?_
  exact r_iret hx hf dX8_mixed_17
theorem dX8_lot_0 : decode bX8_lot 0 = .ok (.iload_n 1, 1) := by decide +kernel
theorem dX8_lot_1 : decode bX8_lot 1 = .ok (.sipush 209, 3) := by decide +kernel
theorem dX8_lot_4 : decode bX8_lot 4 = .ok (.invokestatic 144, 3) := by decide +kernel
theorem dX8_lot_7 : decode bX8_lot 7 = .ok (.iload_n 2, 1) := by decide +kernel
theorem dX8_lot_8 : decode bX8_lot 8 = .ok (.invokestatic 144, 3) := by decide +kernel
theorem dX8_lot_11 : decode bX8_lot 11 = .ok (.istore_n 3, 1) := by decide +kernel
theorem dX8_lot_12 : decode bX8_lot 12 = .ok (.iload_n 0, 1) := by decide +kernel
theorem dX8_lot_13 : decode bX8_lot 13 = .ok (.ifCond .le 11, 3) := by decide +kernel
theorem dX8_lot_16 : decode bX8_lot 16 = .ok (.iload_n 3, 1) := by decide +kernel
theorem dX8_lot_17 : decode bX8_lot 17 = .ok (.iconst 1, 1) := by decide +kernel
theorem dX8_lot_18 : decode bX8_lot 18 = .ok (.iushr, 1) := by decide +kernel
theorem dX8_lot_19 : decode bX8_lot 19 = .ok (.iload_n 0, 1) := by decide +kernel
theorem dX8_lot_20 : decode bX8_lot 20 = .ok (.irem, 1) := by decide +kernel
theorem dX8_lot_21 : decode bX8_lot 21 = .ok (.goto 4, 3) := by decide +kernel
theorem dX8_lot_24 : decode bX8_lot 24 = .ok (.iconst 0, 1) := by decide +kernel
theorem dX8_lot_25 : decode bX8_lot 25 = .ok (.ireturn, 1) := by decide +kernel
set_option maxRecDepth 20000 in
set_option maxHeartbeats 4000000 in
theorem cX8_lot {l : Launch} {k : Kx} {F : Nat} {a0 : Int32} {a1 : Int32} {a2 : Int32} {μ μ' : Mm} {r : Int32} (hk : kok k) (hf : fX8_lot F a0 a1 a2 μ = some (r, μ')) : MM l k 1 yX8_lot bX8_lot 4 (some .int) [.int a0, .int a1, .int a2] μ (some (.int r)) μ' := by
  refine MM.of (lv := [(0, .int a0), (1, .int a1), (2, .int a2)]) (plainFor_of_name (by decide)) hk (Nat.le_of_ble_eq_true rfl) rfl (fun z hl hx => ?_)
  subst hl
  have hx : Ok z k bX8_lot 4 "RopeDance$Text" (some .int) 1 (0, 0) := hx
  unfold fX8_lot at hf
  refine r_iloadn hx 1 rfl rfl dX8_lot_0 ?_
  refine r_sipush hx cs_209 dX8_lot_1 ?_
  obtain ⟨r3, μ2, c1, hf⟩ := f_bd2 hf
  refine r_callS hx (As := [.int a1, .int 209]) (rest := []) (st1 := [.int r3]) MK_X8_mixed ws_X8_mixed wm_X8_144 ⟨Nat.le_refl _, Nat.le_refl _⟩ (cX8_mixed hk c1) (Nat.le_of_ble_eq_true rfl) rfl rfl (Nat.le_of_ble_eq_true rfl) rfl dX8_lot_4 (fun hb4 => ?_)
  refine r_iloadn hx 2 rfl rfl dX8_lot_7 ?_
  obtain ⟨r7, μ6, c5, hf⟩ := f_bd2 hf
  refine r_callS hx (As := [.int r3, .int a2]) (rest := []) (st1 := [.int r7]) MK_X8_mixed ws_X8_mixed wm_X8_144 ⟨Nat.le_refl _, Nat.le_refl _⟩ (cX8_mixed hk c5) (Nat.le_of_ble_eq_true rfl) rfl rfl (Nat.le_of_ble_eq_true rfl) rfl dX8_lot_8 (fun hb8 => ?_)
  refine r_istoren (lv' := [(3, .int r7), (0, .int a0), (1, .int a1), (2, .int a2)]) hx rfl (Nat.le_of_ble_eq_true rfl) rfl dX8_lot_11 ?_
  refine r_iloadn hx 1 rfl rfl dX8_lot_12 ?_
  refine r_ifle (tgt := 24) hx rfl dX8_lot_13 (fun q9 => ?_) (fun q9 => ?_)
  · have hf := (f_ite hf).1 q9
    refine r_iconst hx ci_0 dX8_lot_24 ?_
    exact r_iret hx hf dX8_lot_25
  · have hf := (f_ite hf).2 q9
    refine r_iloadn hx 0 rfl rfl dX8_lot_16 ?_
    refine r_iconst hx ci_1 dX8_lot_17 ?_
    refine r_iushr hx dX8_lot_18 ?_
    refine r_iloadn hx 1 rfl rfl dX8_lot_19 ?_
    obtain ⟨q10, hf⟩ := f_nz hf
    refine r_irem hx q10 dX8_lot_20 ?_
    refine r_goto (tgt := 25) hx rfl dX8_lot_21 ?_
    exact r_iret hx hf dX8_lot_25
theorem dX5_takeTangle_0 : decode bX5_takeTangle 0 = .ok (.aload_n 0, 1) := by decide +kernel
theorem dX5_takeTangle_1 : decode bX5_takeTangle 1 = .ok (.aload_n 1, 1) := by decide +kernel
theorem dX5_takeTangle_2 : decode bX5_takeTangle 2 = .ok (.getfield 23, 3) := by decide +kernel
theorem dX5_takeTangle_5 : decode bX5_takeTangle 5 = .ok (.putfield 23, 3) := by decide +kernel
theorem dX5_takeTangle_8 : decode bX5_takeTangle 8 = .ok (.aload_n 0, 1) := by decide +kernel
theorem dX5_takeTangle_9 : decode bX5_takeTangle 9 = .ok (.aload_n 1, 1) := by decide +kernel
theorem dX5_takeTangle_10 : decode bX5_takeTangle 10 = .ok (.getfield 7, 3) := by decide +kernel
theorem dX5_takeTangle_13 : decode bX5_takeTangle 13 = .ok (.putfield 7, 3) := by decide +kernel
theorem dX5_takeTangle_16 : decode bX5_takeTangle 16 = .ok (.return_, 1) := by decide +kernel
set_option maxRecDepth 20000 in
set_option maxHeartbeats 4000000 in
theorem cX5_takeTangle {l : Launch} {k : Kx} {F : Nat} {this : Nat} {a1 : Nat} {μ μ' : Mm} (hk : kok k) (e_this : kex k 5 this) (e_a1 : kex k 5 a1) (hf : fX5_takeTangle F this a1 μ = some μ') : MM l k 0 yX5_takeTangle bX5_takeTangle 2 none [.ref (kad k 5 this), .ref (kad k 5 a1)] μ none μ' := by
  refine MM.of (lv := [(0, .ref (kad k 5 this)), (1, .ref (kad k 5 a1))]) (plainFor_of_name (by decide)) hk (Nat.le_of_ble_eq_true rfl) rfl (fun z hl hx => ?_)
  subst hl
  have hx : Ok z k bX5_takeTangle 2 "RopeDance$Square" none 0 (0, 0) := hx
  unfold fX5_takeTangle at hf
  refine r_aloadn hx 0 rfl rfl dX5_takeTangle_0 ?_
  refine r_aloadn hx 1 rfl rfl dX5_takeTangle_1 ?_
  refine r_getI hx FK5_0 e_a1 wf_X5_23 dX5_takeTangle_2 ?_
  refine r_putI (ty := .int) hx FK5_0 (fun T N h => by cases h; rfl) e_this wf_X5_23 (by decide +kernel) rfl rfl dX5_takeTangle_5 ?_
  refine r_aloadn hx 0 rfl rfl dX5_takeTangle_8 ?_
  refine r_aloadn hx 1 rfl rfl dX5_takeTangle_9 ?_
  refine r_getI hx FK5_1 e_a1 wf_X5_7 dX5_takeTangle_10 ?_
  refine r_putI (ty := .int) hx FK5_1 (fun T N h => by cases h; rfl) e_this wf_X5_7 (by decide +kernel) rfl rfl dX5_takeTangle_13 ?_
  exact r_vret hx hf dX5_takeTangle_16
theorem dX8_calls_0 : decode bX8_calls 0 = .ok (.aload_n 0, 1) := by decide +kernel
theorem dX8_calls_1 : decode bX8_calls 1 = .ok (.getfield 44, 3) := by decide +kernel
theorem dX8_calls_4 : decode bX8_calls 4 = .ok (.aload_n 2, 1) := by decide +kernel
theorem dX8_calls_5 : decode bX8_calls 5 = .ok (.invokevirtual 121, 3) := by decide +kernel
theorem dX8_calls_8 : decode bX8_calls 8 = .ok (.aload_n 1, 1) := by decide +kernel
theorem dX8_calls_9 : decode bX8_calls 9 = .ok (.aload_n 0, 1) := by decide +kernel
theorem dX8_calls_10 : decode bX8_calls 10 = .ok (.getfield 44, 3) := by decide +kernel
theorem dX8_calls_13 : decode bX8_calls 13 = .ok (.iload 5, 2) := by decide +kernel
theorem dX8_calls_15 : decode bX8_calls 15 = .ok (.invokevirtual 125, 3) := by decide +kernel
theorem dX8_calls_18 : decode bX8_calls 18 = .ok (.ifCond .ne 5, 3) := by decide +kernel
theorem dX8_calls_21 : decode bX8_calls 21 = .ok (.iconst 0, 1) := by decide +kernel
theorem dX8_calls_22 : decode bX8_calls 22 = .ok (.ireturn, 1) := by decide +kernel
theorem dX8_calls_23 : decode bX8_calls 23 = .ok (.aload_n 0, 1) := by decide +kernel
theorem dX8_calls_24 : decode bX8_calls 24 = .ok (.iconst 0, 1) := by decide +kernel
theorem dX8_calls_25 : decode bX8_calls 25 = .ok (.aload_n 2, 1) := by decide +kernel
theorem dX8_calls_26 : decode bX8_calls 26 = .ok (.iload_n 3, 1) := by decide +kernel
theorem dX8_calls_27 : decode bX8_calls 27 = .ok (.iload 4, 2) := by decide +kernel
theorem dX8_calls_29 : decode bX8_calls 29 = .ok (.aload_n 1, 1) := by decide +kernel
theorem dX8_calls_30 : decode bX8_calls 30 = .ok (.getfield 129, 3) := by decide +kernel
theorem dX8_calls_33 : decode bX8_calls 33 = .ok (.invokevirtual 132, 3) := by decide +kernel
theorem dX8_calls_36 : decode bX8_calls 36 = .ok (.istore 6, 2) := by decide +kernel
theorem dX8_calls_38 : decode bX8_calls 38 = .ok (.aload_n 2, 1) := by decide +kernel
theorem dX8_calls_39 : decode bX8_calls 39 = .ok (.aload_n 0, 1) := by decide +kernel
theorem dX8_calls_40 : decode bX8_calls 40 = .ok (.getfield 44, 3) := by decide +kernel
theorem dX8_calls_43 : decode bX8_calls 43 = .ok (.invokevirtual 121, 3) := by decide +kernel
theorem dX8_calls_46 : decode bX8_calls 46 = .ok (.aload_n 2, 1) := by decide +kernel
theorem dX8_calls_47 : decode bX8_calls 47 = .ok (.sipush 999, 3) := by decide +kernel
theorem dX8_calls_50 : decode bX8_calls 50 = .ok (.aload_n 2, 1) := by decide +kernel
theorem dX8_calls_51 : decode bX8_calls 51 = .ok (.getfield 98, 3) := by decide +kernel
theorem dX8_calls_54 : decode bX8_calls 54 = .ok (.iload 6, 2) := by decide +kernel
theorem dX8_calls_56 : decode bX8_calls 56 = .ok (.iadd, 1) := by decide +kernel
theorem dX8_calls_57 : decode bX8_calls 57 = .ok (.invokestatic 107, 3) := by decide +kernel
theorem dX8_calls_60 : decode bX8_calls 60 = .ok (.putfield 98, 3) := by decide +kernel
theorem dX8_calls_63 : decode bX8_calls 63 = .ok (.aload_n 2, 1) := by decide +kernel
theorem dX8_calls_64 : decode bX8_calls 64 = .ok (.dup, 1) := by decide +kernel
theorem dX8_calls_65 : decode bX8_calls 65 = .ok (.getfield 101, 3) := by decide +kernel
theorem dX8_calls_68 : decode bX8_calls 68 = .ok (.iconst 1, 1) := by decide +kernel
theorem dX8_calls_69 : decode bX8_calls 69 = .ok (.iadd, 1) := by decide +kernel
theorem dX8_calls_70 : decode bX8_calls 70 = .ok (.putfield 101, 3) := by decide +kernel
theorem dX8_calls_73 : decode bX8_calls 73 = .ok (.iconst 1, 1) := by decide +kernel
theorem dX8_calls_74 : decode bX8_calls 74 = .ok (.ireturn, 1) := by decide +kernel
set_option maxRecDepth 20000 in
set_option maxHeartbeats 4000000 in
theorem cX8_calls {l : Launch} {k : Kx} {F : Nat} {this : Nat} {a1 : Nat} {a2 : Nat} {a3 : Int32} {a4 : Int32} {a5 : Int32} {μ μ' : Mm} {r : Int32} (hk : kok k) (e_this : kex k 8 this) (e_a1 : kex k 3 a1) (e_a2 : kex k 5 a2) (hf : fX8_calls F this a1 a2 a3 a4 a5 μ = some (r, μ')) : MM l k 4 yX8_calls bX8_calls 7 (some .boolean) [.ref (kad k 8 this), .ref (kad k 3 a1), .ref (kad k 5 a2), .int a3, .int a4, .int a5] μ (some (.int r)) μ' := by
  refine MM.of (lv := [(0, .ref (kad k 8 this)), (1, .ref (kad k 3 a1)), (2, .ref (kad k 5 a2)), (3, .int a3), (4, .int a4), (5, .int a5)]) (plainFor_of_name (by decide)) hk (Nat.le_of_ble_eq_true rfl) rfl (fun z hl hx => ?_)
  subst hl
  have hx : Ok z k bX8_calls 7 "RopeDance$Text" (some .boolean) 4 (0, 0) := hx
  unfold fX8_calls at hf
  refine r_aloadn hx 0 rfl rfl dX8_calls_0 ?_
  refine r_getR hx (c' := 5) (i' := (5 + this)) FK8_12 e_this rfl wf_X8_44 dX8_calls_1 (fun e1 => ?_)
  refine r_aloadn hx 2 rfl rfl dX8_calls_4 ?_
  obtain ⟨μ3, c2, hf⟩ := f_bd1 hf
  refine r_callV hx (As := [.ref (kad k 5 a2)]) (rest := []) (st1 := []) (c := 5) (i := (5 + this)) (TT := T5) (N := 4) MK_X5_takeTangle rfl wi_X5_takeTangle we_X5_takeTangle wm_X8_121 ⟨Nat.le_refl _, Nat.le_refl _⟩ (cX5_takeTangle hk e1 e_a2 c2) e1 (Nat.le_of_ble_eq_true rfl) rfl rfl (Nat.le_of_ble_eq_true rfl) rfl dX8_calls_5 (fun hb4 => ?_)
  refine r_aloadn hx 1 rfl rfl dX8_calls_8 ?_
  refine r_aloadn hx 0 rfl rfl dX8_calls_9 ?_
  refine r_getR hx (c' := 5) (i' := (5 + this)) FK8_12 e_this rfl wf_X8_44 dX8_calls_10 (fun e5 => ?_)
  refine r_iload hx 5 rfl dX8_calls_13 ?_
  obtain ⟨r8, μ7, c6, hf⟩ := f_bd2 hf
  refine r_callV hx (As := [.ref (kad k 5 (5 + this)), .int a5]) (rest := []) (st1 := [.int r8]) (c := 3) (i := a1) (TT := T3) (N := 4) MK_X3_makes rfl wi_X3_makes we_X3_makes wm_X8_125 ⟨Nat.le_refl _, Nat.le_refl _⟩ (cX3_makes hk e_a1 e5 c6) e_a1 (Nat.le_of_ble_eq_true rfl) rfl rfl (Nat.le_of_ble_eq_true rfl) rfl dX8_calls_15 (fun hb9 => ?_)
  refine r_ifne (tgt := 23) hx rfl dX8_calls_18 (fun q10 => ?_) (fun q10 => ?_)
  · have hf := (f_ite hf).2 q10
    refine r_aloadn hx 0 rfl rfl dX8_calls_23 ?_
    refine r_iconst hx ci_0 dX8_calls_24 ?_
    refine r_aloadn hx 2 rfl rfl dX8_calls_25 ?_
    refine r_iloadn hx 3 rfl rfl dX8_calls_26 ?_
    refine r_iload hx 4 rfl dX8_calls_27 ?_
    refine r_aloadn hx 1 rfl rfl dX8_calls_29 ?_
    refine r_getI hx FK3_0 e_a1 wf_X8_129 dX8_calls_30 ?_
    obtain ⟨r13, μ12, c11, hf⟩ := f_bd2 hf
    refine r_callV hx (As := [.int 0, .ref (kad k 5 a2), .int a3, .int a4, .int (gi μ7 3 a1 0)]) (rest := []) (st1 := [.int r13]) (c := 8) (i := this) (TT := T8) (N := 13) MK_X8_worth rfl wi_X8_worth we_X8_worth wm_X8_132 ⟨Nat.le_refl _, Nat.le_refl _⟩ (cX8_worth hk e_this e_a2 c11) e_this (Nat.le_of_ble_eq_true rfl) rfl rfl (Nat.le_of_ble_eq_true rfl) rfl dX8_calls_33 (fun hb14 => ?_)
    refine r_istore (lv' := [(6, .int r13), (0, .ref (kad k 8 this)), (1, .ref (kad k 3 a1)), (2, .ref (kad k 5 a2)), (3, .int a3), (4, .int a4), (5, .int a5)]) hx (Nat.le_of_ble_eq_true rfl) rfl dX8_calls_36 ?_
    refine r_aloadn hx 3 rfl rfl dX8_calls_38 ?_
    refine r_aloadn hx 1 rfl rfl dX8_calls_39 ?_
    refine r_getR hx (c' := 5) (i' := (5 + this)) FK8_12 e_this rfl wf_X8_44 dX8_calls_40 (fun e15 => ?_)
    obtain ⟨μ17, c16, hf⟩ := f_bd1 hf
    refine r_callV hx (As := [.ref (kad k 5 (5 + this))]) (rest := []) (st1 := []) (c := 5) (i := a2) (TT := T5) (N := 4) MK_X5_takeTangle rfl wi_X5_takeTangle we_X5_takeTangle wm_X8_121 ⟨Nat.le_refl _, Nat.le_refl _⟩ (cX5_takeTangle hk e_a2 e15 c16) e_a2 (Nat.le_of_ble_eq_true rfl) rfl rfl (Nat.le_of_ble_eq_true rfl) rfl dX8_calls_43 (fun hb18 => ?_)
    refine r_aloadn hx 3 rfl rfl dX8_calls_46 ?_
    refine r_sipush hx cs_999 dX8_calls_47 ?_
    refine r_aloadn hx 3 rfl rfl dX8_calls_50 ?_
    refine r_getI hx FK5_2 e_a2 wf_X8_98 dX8_calls_51 ?_
    refine r_iload hx 0 rfl dX8_calls_54 ?_
    refine r_iadd hx dX8_calls_56 ?_
    refine r_mmin hx wm_X8_107 xws_min xwm xwk_min ⟨Nat.le_refl _, Nat.le_refl _⟩ (Nat.le_of_ble_eq_true rfl) (Nat.le_of_ble_eq_true rfl) dX8_calls_57 ?_
    refine r_putI (ty := .int) hx FK5_2 (fun T N h => by cases h; rfl) e_a2 wf_X8_98 (by decide +kernel) rfl rfl dX8_calls_60 ?_
    refine r_aloadn hx 3 rfl rfl dX8_calls_63 ?_
    refine r_dup hx rfl dX8_calls_64 ?_
    refine r_getI hx FK5_3 e_a2 wf_X8_101 dX8_calls_65 ?_
    refine r_iconst hx ci_1 dX8_calls_68 ?_
    refine r_iadd hx dX8_calls_69 ?_
    refine r_putI (ty := .int) hx FK5_3 (fun T N h => by cases h; rfl) e_a2 wf_X8_101 (by decide +kernel) rfl rfl dX8_calls_70 ?_
    refine r_iconst hx ci_1 dX8_calls_73 ?_
    exact r_zret hx hf rfl dX8_calls_74
  · have hf := (f_ite hf).1 q10
    refine r_iconst hx ci_0 dX8_calls_21 ?_
    exact r_zret hx hf rfl dX8_calls_22
theorem dX8_passMinute_0 : decode bX8_passMinute 0 = .ok (.bipush 8, 2) := by decide +kernel
theorem dX8_passMinute_2 : decode bX8_passMinute 2 = .ok (.iload_n 3, 1) := by decide +kernel
theorem dX8_passMinute_3 : decode bX8_passMinute 3 = .ok (.imul, 1) := by decide +kernel
theorem dX8_passMinute_4 : decode bX8_passMinute 4 = .ok (.iload_n 2, 1) := by decide +kernel
theorem dX8_passMinute_5 : decode bX8_passMinute 5 = .ok (.iadd, 1) := by decide +kernel
theorem dX8_passMinute_6 : decode bX8_passMinute 6 = .ok (.istore 5, 2) := by decide +kernel
theorem dX8_passMinute_8 : decode bX8_passMinute 8 = .ok (.aload_n 0, 1) := by decide +kernel
theorem dX8_passMinute_9 : decode bX8_passMinute 9 = .ok (.getfield 55, 3) := by decide +kernel
theorem dX8_passMinute_12 : decode bX8_passMinute 12 = .ok (.ifCond .le 77, 3) := by decide +kernel
theorem dX8_passMinute_15 : decode bX8_passMinute 15 = .ok (.aload_n 0, 1) := by decide +kernel
theorem dX8_passMinute_16 : decode bX8_passMinute 16 = .ok (.getfield 16, 3) := by decide +kernel
theorem dX8_passMinute_19 : decode bX8_passMinute 19 = .ok (.aload_n 0, 1) := by decide +kernel
theorem dX8_passMinute_20 : decode bX8_passMinute 20 = .ok (.getfield 55, 3) := by decide +kernel
theorem dX8_passMinute_23 : decode bX8_passMinute 23 = .ok (.iload 4, 2) := by decide +kernel
theorem dX8_passMinute_25 : decode bX8_passMinute 25 = .ok (.iload 5, 2) := by decide +kernel
theorem dX8_passMinute_27 : decode bX8_passMinute 27 = .ok (.invokestatic 136, 3) := by decide +kernel
theorem dX8_passMinute_30 : decode bX8_passMinute 30 = .ok (.aaload, 1) := by decide +kernel
theorem dX8_passMinute_31 : decode bX8_passMinute 31 = .ok (.astore 6, 2) := by decide +kernel
theorem dX8_passMinute_33 : decode bX8_passMinute 33 = .ok (.aload 6, 2) := by decide +kernel
theorem dX8_passMinute_35 : decode bX8_passMinute 35 = .ok (.getfield 129, 3) := by decide +kernel
theorem dX8_passMinute_38 : decode bX8_passMinute 38 = .ok (.istore 7, 2) := by decide +kernel
theorem dX8_passMinute_40 : decode bX8_passMinute 40 = .ok (.bipush 100, 2) := by decide +kernel
theorem dX8_passMinute_42 : decode bX8_passMinute 42 = .ok (.iload 4, 2) := by decide +kernel
theorem dX8_passMinute_44 : decode bX8_passMinute 44 = .ok (.ldc 139, 2) := by decide +kernel
theorem dX8_passMinute_46 : decode bX8_passMinute 46 = .ok (.iload 5, 2) := by decide +kernel
theorem dX8_passMinute_48 : decode bX8_passMinute 48 = .ok (.iadd, 1) := by decide +kernel
theorem dX8_passMinute_49 : decode bX8_passMinute 49 = .ok (.invokestatic 136, 3) := by decide +kernel
theorem dX8_passMinute_52 : decode bX8_passMinute 52 = .ok (.aload_n 0, 1) := by decide +kernel
theorem dX8_passMinute_53 : decode bX8_passMinute 53 = .ok (.iconst 3, 1) := by decide +kernel
theorem dX8_passMinute_54 : decode bX8_passMinute 54 = .ok (.aload_n 1, 1) := by decide +kernel
theorem dX8_passMinute_55 : decode bX8_passMinute 55 = .ok (.iload_n 2, 1) := by decide +kernel
theorem dX8_passMinute_56 : decode bX8_passMinute 56 = .ok (.iload_n 3, 1) := by decide +kernel
theorem dX8_passMinute_57 : decode bX8_passMinute 57 = .ok (.iconst 0, 1) := by decide +kernel
theorem dX8_passMinute_58 : decode bX8_passMinute 58 = .ok (.invokevirtual 132, 3) := by decide +kernel
theorem dX8_passMinute_61 : decode bX8_passMinute 61 = .ok (.if_icmp .ge 13, 3) := by decide +kernel
theorem dX8_passMinute_64 : decode bX8_passMinute 64 = .ok (.iconst 0, 1) := by decide +kernel
theorem dX8_passMinute_65 : decode bX8_passMinute 65 = .ok (.iload 7, 2) := by decide +kernel
theorem dX8_passMinute_67 : decode bX8_passMinute 67 = .ok (.iconst 1, 1) := by decide +kernel
theorem dX8_passMinute_68 : decode bX8_passMinute 68 = .ok (.isub, 1) := by decide +kernel
theorem dX8_passMinute_69 : decode bX8_passMinute 69 = .ok (.invokestatic 111, 3) := by decide +kernel
theorem dX8_passMinute_72 : decode bX8_passMinute 72 = .ok (.istore 7, 2) := by decide +kernel
theorem dX8_passMinute_74 : decode bX8_passMinute 74 = .ok (.aload_n 0, 1) := by decide +kernel
theorem dX8_passMinute_75 : decode bX8_passMinute 75 = .ok (.aload 6, 2) := by decide +kernel
theorem dX8_passMinute_77 : decode bX8_passMinute 77 = .ok (.aload_n 1, 1) := by decide +kernel
theorem dX8_passMinute_78 : decode bX8_passMinute 78 = .ok (.iload_n 2, 1) := by decide +kernel
theorem dX8_passMinute_79 : decode bX8_passMinute 79 = .ok (.iload_n 3, 1) := by decide +kernel
theorem dX8_passMinute_80 : decode bX8_passMinute 80 = .ok (.iload 7, 2) := by decide +kernel
theorem dX8_passMinute_82 : decode bX8_passMinute 82 = .ok (.invokevirtual 140, 3) := by decide +kernel
theorem dX8_passMinute_85 : decode bX8_passMinute 85 = .ok (.ifCond .eq 4, 3) := by decide +kernel
theorem dX8_passMinute_88 : decode bX8_passMinute 88 = .ok (.return_, 1) := by decide +kernel
theorem dX8_passMinute_89 : decode bX8_passMinute 89 = .ok (.aload_n 1, 1) := by decide +kernel
theorem dX8_passMinute_90 : decode bX8_passMinute 90 = .ok (.iconst 0, 1) := by decide +kernel
theorem dX8_passMinute_91 : decode bX8_passMinute 91 = .ok (.aload_n 1, 1) := by decide +kernel
theorem dX8_passMinute_92 : decode bX8_passMinute 92 = .ok (.getfield 98, 3) := by decide +kernel
theorem dX8_passMinute_95 : decode bX8_passMinute 95 = .ok (.aload_n 0, 1) := by decide +kernel
theorem dX8_passMinute_96 : decode bX8_passMinute 96 = .ok (.iconst 1, 1) := by decide +kernel
theorem dX8_passMinute_97 : decode bX8_passMinute 97 = .ok (.aload_n 1, 1) := by decide +kernel
theorem dX8_passMinute_98 : decode bX8_passMinute 98 = .ok (.iload_n 2, 1) := by decide +kernel
theorem dX8_passMinute_99 : decode bX8_passMinute 99 = .ok (.iload_n 3, 1) := by decide +kernel
theorem dX8_passMinute_100 : decode bX8_passMinute 100 = .ok (.iconst 0, 1) := by decide +kernel
theorem dX8_passMinute_101 : decode bX8_passMinute 101 = .ok (.invokevirtual 132, 3) := by decide +kernel
theorem dX8_passMinute_104 : decode bX8_passMinute 104 = .ok (.isub, 1) := by decide +kernel
theorem dX8_passMinute_105 : decode bX8_passMinute 105 = .ok (.invokestatic 111, 3) := by decide +kernel
theorem dX8_passMinute_108 : decode bX8_passMinute 108 = .ok (.putfield 98, 3) := by decide +kernel
theorem dX8_passMinute_111 : decode bX8_passMinute 111 = .ok (.return_, 1) := by decide +kernel
set_option maxRecDepth 20000 in
set_option maxHeartbeats 4000000 in
theorem cX8_passMinute {l : Launch} {k : Kx} {F : Nat} {this : Nat} {a1 : Nat} {a2 : Int32} {a3 : Int32} {a4 : Int32} {μ μ' : Mm} (hk : kok k) (e_this : kex k 8 this) (e_a1 : kex k 5 a1) (hf : fX8_passMinute F this a1 a2 a3 a4 μ = some μ') : MM l k 5 yX8_passMinute bX8_passMinute 8 none [.ref (kad k 8 this), .ref (kad k 5 a1), .int a2, .int a3, .int a4] μ none μ' := by
  refine MM.of (lv := [(0, .ref (kad k 8 this)), (1, .ref (kad k 5 a1)), (2, .int a2), (3, .int a3), (4, .int a4)]) (plainFor_of_name (by decide)) hk (Nat.le_of_ble_eq_true rfl) rfl (fun z hl hx => ?_)
  subst hl
  have hx : Ok z k bX8_passMinute 8 "RopeDance$Text" none 5 (0, 0) := hx
  have L89 : ∀ (v0 : Nat) (v1 : Nat) (v2 : Int32) (v3 : Int32) (μ : Mm) (e_v0 : kex k 8 v0) (e_v1 : kex k 5 v1), fX8_passMinute_L89 F v0 v1 v2 v3 μ = some μ' → Gw z k 8 (k, (0, 0), none, none, μ') (0, 0) 89 μ [(0, .ref (kad k 8 v0)), (1, .ref (kad k 5 v1)), (2, .int v2), (3, .int v3)] [] := by
    intro  v0 v1 v2 v3 μ e_v0 e_v1 hf
    unfold fX8_passMinute_L89 at hf
    refine r_aloadn hx 1 rfl rfl dX8_passMinute_89 ?_
    refine r_iconst hx ci_0 dX8_passMinute_90 ?_
    refine r_aloadn hx 1 rfl rfl dX8_passMinute_91 ?_
    refine r_getI hx FK5_2 e_v1 wf_X8_98 dX8_passMinute_92 ?_
    refine r_aloadn hx 0 rfl rfl dX8_passMinute_95 ?_
    refine r_iconst hx ci_1 dX8_passMinute_96 ?_
    refine r_aloadn hx 1 rfl rfl dX8_passMinute_97 ?_
    refine r_iloadn hx 2 rfl rfl dX8_passMinute_98 ?_
    refine r_iloadn hx 3 rfl rfl dX8_passMinute_99 ?_
    refine r_iconst hx ci_0 dX8_passMinute_100 ?_
    obtain ⟨r4, μ3, c2, hf⟩ := f_bd2 hf
    refine r_callV hx (As := [.int 1, .ref (kad k 5 v1), .int v2, .int v3, .int 0]) (rest := [.int (gi μ 5 v1 2), .int 0, .ref (kad k 5 v1)]) (st1 := [.int r4, .int (gi μ 5 v1 2), .int 0, .ref (kad k 5 v1)]) (c := 8) (i := v0) (TT := T8) (N := 13) MK_X8_worth rfl wi_X8_worth we_X8_worth wm_X8_132 ⟨Nat.le_refl _, Nat.le_refl _⟩ (cX8_worth hk e_v0 e_v1 c2) e_v0 (Nat.le_of_ble_eq_true rfl) rfl rfl (Nat.le_of_ble_eq_true rfl) rfl dX8_passMinute_101 (fun hb5 => ?_)
    refine r_isub hx dX8_passMinute_104 ?_
    refine r_mmax hx wm_X8_111 xws_max xwm xwk_max ⟨Nat.le_refl _, Nat.le_refl _⟩ (Nat.le_of_ble_eq_true rfl) (Nat.le_of_ble_eq_true rfl) dX8_passMinute_105 ?_
    refine r_putI (ty := .int) hx FK5_2 (fun T N h => by cases h; rfl) e_v1 wf_X8_98 (by decide +kernel) rfl rfl dX8_passMinute_108 ?_
    exact r_vret hx hf dX8_passMinute_111
  have L74 : ∀ (v0 : Nat) (v1 : Nat) (v2 : Int32) (v3 : Int32) (v6 : Nat) (v7 : Int32) (μ : Mm) (e_v0 : kex k 8 v0) (e_v1 : kex k 5 v1) (e_v6 : kex k 3 v6), fX8_passMinute_L74 F v0 v1 v2 v3 v6 v7 μ = some μ' → Gw z k 8 (k, (0, 0), none, none, μ') (0, 0) 74 μ [(0, .ref (kad k 8 v0)), (1, .ref (kad k 5 v1)), (2, .int v2), (3, .int v3), (6, .ref (kad k 3 v6)), (7, .int v7)] [] := by
    intro  v0 v1 v2 v3 v6 v7 μ e_v0 e_v1 e_v6 hf
    unfold fX8_passMinute_L74 at hf
    refine r_aloadn hx 0 rfl rfl dX8_passMinute_74 ?_
    refine r_aload hx 4 rfl dX8_passMinute_75 ?_
    refine r_aloadn hx 1 rfl rfl dX8_passMinute_77 ?_
    refine r_iloadn hx 2 rfl rfl dX8_passMinute_78 ?_
    refine r_iloadn hx 3 rfl rfl dX8_passMinute_79 ?_
    refine r_iload hx 5 rfl dX8_passMinute_80 ?_
    obtain ⟨r24, μ23, c22, hf⟩ := f_bd2 hf
    refine r_callV hx (As := [.ref (kad k 3 v6), .ref (kad k 5 v1), .int v2, .int v3, .int v7]) (rest := []) (st1 := [.int r24]) (c := 8) (i := v0) (TT := T8) (N := 13) MK_X8_calls rfl wi_X8_calls we_X8_calls wm_X8_140 ⟨Nat.le_refl _, Nat.le_refl _⟩ (cX8_calls hk e_v0 e_v6 e_v1 c22) e_v0 (Nat.le_of_ble_eq_true rfl) rfl rfl (Nat.le_of_ble_eq_true rfl) rfl dX8_passMinute_82 (fun hb25 => ?_)
    refine r_ifeq (tgt := 89) hx rfl dX8_passMinute_85 (fun q26 => ?_) (fun q26 => ?_)
    · have hf := (f_ite hf).1 q26
      refine r_sub [0, 1, 2, 3] rfl ?_
      exact L89  v0 v1 v2 v3 μ23 e_v0 e_v1 hf
    · have hf := (f_ite hf).2 q26
      exact r_vret hx hf dX8_passMinute_88
  unfold fX8_passMinute at hf
  refine r_bipush hx cb_8 dX8_passMinute_0 ?_
  refine r_iloadn hx 3 rfl rfl dX8_passMinute_2 ?_
  refine r_imul hx dX8_passMinute_3 ?_
  refine r_iloadn hx 2 rfl rfl dX8_passMinute_4 ?_
  refine r_iadd hx dX8_passMinute_5 ?_
  refine r_istore (lv' := [(5, .int ((8 * a3) + a2)), (0, .ref (kad k 8 this)), (1, .ref (kad k 5 a1)), (2, .int a2), (3, .int a3), (4, .int a4)]) hx (Nat.le_of_ble_eq_true rfl) rfl dX8_passMinute_6 ?_
  refine r_aloadn hx 1 rfl rfl dX8_passMinute_8 ?_
  refine r_getI hx FK8_1 e_this wf_X8_55 dX8_passMinute_9 ?_
  refine r_ifle (tgt := 89) hx rfl dX8_passMinute_12 (fun q1 => ?_) (fun q1 => ?_)
  · have hf := (f_ite hf).1 q1
    refine r_sub [1, 2, 3, 4] rfl ?_
    exact L89  this a1 a2 a3 μ e_this e_a1 hf
  · have hf := (f_ite hf).2 q1
    refine r_aloadn hx 1 rfl rfl dX8_passMinute_15 ?_
    refine r_getR hx (c' := 35) (i' := this) FK8_4 e_this rfl wf_X8_16 dX8_passMinute_16 (fun e6 => ?_)
    refine r_aloadn hx 1 rfl rfl dX8_passMinute_19 ?_
    refine r_getI hx FK8_1 e_this wf_X8_55 dX8_passMinute_20 ?_
    refine r_iload hx 5 rfl dX8_passMinute_23 ?_
    refine r_iload hx 0 rfl dX8_passMinute_25 ?_
    obtain ⟨r9, μ8, c7, hf⟩ := f_bd2 hf
    refine r_callS hx (As := [.int (gi μ 8 this 1), .int a4, .int ((8 * a3) + a2)]) (rest := [.ref (kad k 35 this)]) (st1 := [.int r9, .ref (kad k 35 this)]) MK_X8_lot ws_X8_lot wm_X8_136 ⟨Nat.le_refl _, Nat.le_refl _⟩ (cX8_lot hk c7) (Nat.le_of_ble_eq_true rfl) rfl rfl (Nat.le_of_ble_eq_true rfl) rfl dX8_passMinute_27 (fun hb10 => ?_)
    obtain ⟨b11, hf⟩ := f_chk hf
    refine r_aald hx (c' := 3) (i' := (9 * this + 4 + r9.toNatClampNeg)) (by decide) (by decide) (by decide) e6 b11 rfl rfl dX8_passMinute_30 (fun e12 => ?_)
    refine r_astore (lv' := [(6, .ref (kad k 3 (9 * this + 4 + r9.toNatClampNeg))), (5, .int ((8 * a3) + a2)), (0, .ref (kad k 8 this)), (1, .ref (kad k 5 a1)), (2, .int a2), (3, .int a3), (4, .int a4)]) hx (Nat.le_of_ble_eq_true rfl) rfl dX8_passMinute_31 ?_
    refine r_aload hx 0 rfl dX8_passMinute_33 ?_
    refine r_getI hx FK3_0 e12 wf_X8_129 dX8_passMinute_35 ?_
    refine r_istore (lv' := [(7, .int (gi μ8 3 (9 * this + 4 + r9.toNatClampNeg) 0)), (6, .ref (kad k 3 (9 * this + 4 + r9.toNatClampNeg))), (5, .int ((8 * a3) + a2)), (0, .ref (kad k 8 this)), (1, .ref (kad k 5 a1)), (2, .int a2), (3, .int a3), (4, .int a4)]) hx (Nat.le_of_ble_eq_true rfl) rfl dX8_passMinute_38 ?_
    refine r_bipush hx cb_100 dX8_passMinute_40 ?_
    refine r_iload hx 7 rfl dX8_passMinute_42 ?_
    refine r_ldc hx wc_X8_139 dX8_passMinute_44 ?_
    refine r_iload hx 2 rfl dX8_passMinute_46 ?_
    refine r_iadd hx dX8_passMinute_48 ?_
    obtain ⟨r15, μ14, c13, hf⟩ := f_bd2 hf
    refine r_callS hx (As := [.int 100, .int a4, .int (100000 + ((8 * a3) + a2))]) (rest := []) (st1 := [.int r15]) MK_X8_lot ws_X8_lot wm_X8_136 ⟨Nat.le_refl _, Nat.le_refl _⟩ (cX8_lot hk c13) (Nat.le_of_ble_eq_true rfl) rfl rfl (Nat.le_of_ble_eq_true rfl) rfl dX8_passMinute_49 (fun hb16 => ?_)
    refine r_aloadn hx 3 rfl rfl dX8_passMinute_52 ?_
    refine r_iconst hx ci_3 dX8_passMinute_53 ?_
    refine r_aloadn hx 4 rfl rfl dX8_passMinute_54 ?_
    refine r_iloadn hx 5 rfl rfl dX8_passMinute_55 ?_
    refine r_iloadn hx 6 rfl rfl dX8_passMinute_56 ?_
    refine r_iconst hx ci_0 dX8_passMinute_57 ?_
    obtain ⟨r19, μ18, c17, hf⟩ := f_bd2 hf
    refine r_callV hx (As := [.int 3, .ref (kad k 5 a1), .int a2, .int a3, .int 0]) (rest := [.int r15]) (st1 := [.int r19, .int r15]) (c := 8) (i := this) (TT := T8) (N := 13) MK_X8_worth rfl wi_X8_worth we_X8_worth wm_X8_132 ⟨Nat.le_refl _, Nat.le_refl _⟩ (cX8_worth hk e_this e_a1 c17) e_this (Nat.le_of_ble_eq_true rfl) rfl rfl (Nat.le_of_ble_eq_true rfl) rfl dX8_passMinute_58 (fun hb20 => ?_)
    refine r_icge (tgt := 74) hx rfl dX8_passMinute_61 (fun q21 => ?_) (fun q21 => ?_)
    · have hf := (f_ite hf).1 q21
      refine r_sub [3, 4, 5, 6, 1, 0] rfl ?_
      exact L74  this a1 a2 a3 ((9 * this + 4 + r9.toNatClampNeg)) (gi μ8 3 (9 * this + 4 + r9.toNatClampNeg) 0) μ18 e_this e_a1 e12 hf
    · have hf := (f_ite hf).2 q21
      refine r_iconst hx ci_0 dX8_passMinute_64 ?_
      refine r_iload hx 0 rfl dX8_passMinute_65 ?_
      refine r_iconst hx ci_1 dX8_passMinute_67 ?_
      refine r_isub hx dX8_passMinute_68 ?_
      refine r_mmax hx wm_X8_111 xws_max xwm xwk_max ⟨Nat.le_refl _, Nat.le_refl _⟩ (Nat.le_of_ble_eq_true rfl) (Nat.le_of_ble_eq_true rfl) dX8_passMinute_69 ?_
      refine r_istore (lv' := [(7, .int (mx 0 ((gi μ8 3 (9 * this + 4 + r9.toNatClampNeg) 0) - 1))), (6, .ref (kad k 3 (9 * this + 4 + r9.toNatClampNeg))), (5, .int ((8 * a3) + a2)), (0, .ref (kad k 8 this)), (1, .ref (kad k 5 a1)), (2, .int a2), (3, .int a3), (4, .int a4)]) hx (Nat.le_of_ble_eq_true rfl) rfl dX8_passMinute_72 ?_
      refine r_sub [3, 4, 5, 6, 1, 0] rfl ?_
      exact L74  this a1 a2 a3 ((9 * this + 4 + r9.toNatClampNeg)) (mx 0 ((gi μ8 3 (9 * this + 4 + r9.toNatClampNeg) 0) - 1)) μ18 e_this e_a1 e12 hf
theorem dX0_passMinute_0 : decode bX0_passMinute 0 = .ok (.iconst 0, 1) := by decide +kernel
theorem dX0_passMinute_1 : decode bX0_passMinute 1 = .ok (.istore_n 2, 1) := by decide +kernel
theorem dX0_passMinute_2 : decode bX0_passMinute 2 = .ok (.iload_n 2, 1) := by decide +kernel
theorem dX0_passMinute_3 : decode bX0_passMinute 3 = .ok (.aload_n 1, 1) := by decide +kernel
theorem dX0_passMinute_4 : decode bX0_passMinute 4 = .ok (.getfield 34, 3) := by decide +kernel
theorem dX0_passMinute_7 : decode bX0_passMinute 7 = .ok (.if_icmp .ge 54, 3) := by decide +kernel
theorem dX0_passMinute_10 : decode bX0_passMinute 10 = .ok (.aload_n 0, 1) := by decide +kernel
theorem dX0_passMinute_11 : decode bX0_passMinute 11 = .ok (.dup, 1) := by decide +kernel
theorem dX0_passMinute_12 : decode bX0_passMinute 12 = .ok (.getfield 22, 3) := by decide +kernel
theorem dX0_passMinute_15 : decode bX0_passMinute 15 = .ok (.aload_n 1, 1) := by decide +kernel
theorem dX0_passMinute_16 : decode bX0_passMinute 16 = .ok (.iconst 2, 1) := by decide +kernel
theorem dX0_passMinute_17 : decode bX0_passMinute 17 = .ok (.aload_n 0, 1) := by decide +kernel
theorem dX0_passMinute_18 : decode bX0_passMinute 18 = .ok (.getfield 11, 3) := by decide +kernel
theorem dX0_passMinute_21 : decode bX0_passMinute 21 = .ok (.iload_n 2, 1) := by decide +kernel
theorem dX0_passMinute_22 : decode bX0_passMinute 22 = .ok (.aaload, 1) := by decide +kernel
theorem dX0_passMinute_23 : decode bX0_passMinute 23 = .ok (.iload_n 2, 1) := by decide +kernel
theorem dX0_passMinute_24 : decode bX0_passMinute 24 = .ok (.aload_n 0, 1) := by decide +kernel
theorem dX0_passMinute_25 : decode bX0_passMinute 25 = .ok (.getfield 18, 3) := by decide +kernel
theorem dX0_passMinute_28 : decode bX0_passMinute 28 = .ok (.iconst 0, 1) := by decide +kernel
theorem dX0_passMinute_29 : decode bX0_passMinute 29 = .ok (.invokevirtual 46, 3) := by decide +kernel
theorem dX0_passMinute_32 : decode bX0_passMinute 32 = .ok (.iadd, 1) := by decide +kernel
theorem dX0_passMinute_33 : decode bX0_passMinute 33 = .ok (.putfield 22, 3) := by decide +kernel
theorem dX0_passMinute_36 : decode bX0_passMinute 36 = .ok (.aload_n 1, 1) := by decide +kernel
theorem dX0_passMinute_37 : decode bX0_passMinute 37 = .ok (.aload_n 0, 1) := by decide +kernel
theorem dX0_passMinute_38 : decode bX0_passMinute 38 = .ok (.getfield 11, 3) := by decide +kernel
theorem dX0_passMinute_41 : decode bX0_passMinute 41 = .ok (.iload_n 2, 1) := by decide +kernel
theorem dX0_passMinute_42 : decode bX0_passMinute 42 = .ok (.aaload, 1) := by decide +kernel
theorem dX0_passMinute_43 : decode bX0_passMinute 43 = .ok (.iload_n 2, 1) := by decide +kernel
theorem dX0_passMinute_44 : decode bX0_passMinute 44 = .ok (.aload_n 0, 1) := by decide +kernel
theorem dX0_passMinute_45 : decode bX0_passMinute 45 = .ok (.getfield 18, 3) := by decide +kernel
theorem dX0_passMinute_48 : decode bX0_passMinute 48 = .ok (.aload_n 1, 1) := by decide +kernel
theorem dX0_passMinute_49 : decode bX0_passMinute 49 = .ok (.getfield 50, 3) := by decide +kernel
theorem dX0_passMinute_52 : decode bX0_passMinute 52 = .ok (.invokevirtual 53, 3) := by decide +kernel
theorem dX0_passMinute_55 : decode bX0_passMinute 55 = .ok (.iinc 2 1, 3) := by decide +kernel
theorem dX0_passMinute_58 : decode bX0_passMinute 58 = .ok (.goto (-56), 3) := by decide +kernel
theorem dX0_passMinute_61 : decode bX0_passMinute 61 = .ok (.aload_n 0, 1) := by decide +kernel
theorem dX0_passMinute_62 : decode bX0_passMinute 62 = .ok (.dup, 1) := by decide +kernel
theorem dX0_passMinute_63 : decode bX0_passMinute 63 = .ok (.getfield 18, 3) := by decide +kernel
theorem dX0_passMinute_66 : decode bX0_passMinute 66 = .ok (.iconst 1, 1) := by decide +kernel
theorem dX0_passMinute_67 : decode bX0_passMinute 67 = .ok (.iadd, 1) := by decide +kernel
theorem dX0_passMinute_68 : decode bX0_passMinute 68 = .ok (.putfield 18, 3) := by decide +kernel
theorem dX0_passMinute_71 : decode bX0_passMinute 71 = .ok (.return_, 1) := by decide +kernel
set_option maxRecDepth 20000 in
set_option maxHeartbeats 4000000 in
theorem cX0_passMinute {l : Launch} {k : Kx} {F : Nat} {a1 : Nat} {μ μ' : Mm} (hk : kok k) (e_this : kex k 0 0) (e_a1 : kex k 8 a1) (hf : fX0_passMinute F a1 μ = some μ') : MM l k 6 yX0_passMinute bX0_passMinute 3 none [.ref (kad k 0 0), .ref (kad k 8 a1)] μ none μ' := by
  refine MM.of (lv := [(0, .ref (kad k 0 0)), (1, .ref (kad k 8 a1))]) (plainFor_of_name (by decide)) hk (Nat.le_of_ble_eq_true rfl) rfl (fun z hl hx => ?_)
  subst hl
  have hx : Ok z k bX0_passMinute 3 "RopeDance$Evening" none 6 (0, 0) := hx
  have L2 : ∀ (n : Nat) (v1 : Nat) (v2 : Int32) (μ : Mm) (e_v0 : kex k 0 0) (e_v1 : kex k 8 v1), fX0_passMinute_L2 F n v1 v2 μ = some μ' → Gw z k 3 (k, (0, 0), none, none, μ') (0, 0) 2 μ [(0, .ref (kad k 0 0)), (1, .ref (kad k 8 v1)), (2, .int v2)] [] := by
    intro  n
    induction n with
    | zero =>
      intro v1 v2 μ e_v0 e_v1 hf
      exact f_no (show (none : Option (Mm)) = _ from hf)
    | succ n ih =>
      intro v1 v2 μ e_v0 e_v1 hf
      rw [fX0_passMinute_L2] at hf
      refine r_iloadn hx 2 rfl rfl dX0_passMinute_2 ?_
      refine r_aloadn hx 1 rfl rfl dX0_passMinute_3 ?_
      refine r_getI hx FK8_0 e_v1 wf_X0_34 dX0_passMinute_4 ?_
      refine r_icge (tgt := 61) hx rfl dX0_passMinute_7 (fun q1 => ?_) (fun q1 => ?_)
      · have hf := (f_ite hf).1 q1
        refine r_aloadn hx 0 rfl rfl dX0_passMinute_61 ?_
        refine r_dup hx rfl dX0_passMinute_62 ?_
        refine r_getI hx FK0_1 e_v0 wf_X0_18 dX0_passMinute_63 ?_
        refine r_iconst hx ci_1 dX0_passMinute_66 ?_
        refine r_iadd hx dX0_passMinute_67 ?_
        refine r_putI (ty := .int) hx FK0_1 (fun T N h => by cases h; rfl) e_v0 wf_X0_18 (by decide +kernel) rfl rfl dX0_passMinute_68 ?_
        exact r_vret hx hf dX0_passMinute_71
      · have hf := (f_ite hf).2 q1
        refine r_aloadn hx 0 rfl rfl dX0_passMinute_10 ?_
        refine r_dup hx rfl dX0_passMinute_11 ?_
        refine r_getI hx FK0_2 e_v0 wf_X0_22 dX0_passMinute_12 ?_
        refine r_aloadn hx 1 rfl rfl dX0_passMinute_15 ?_
        refine r_iconst hx ci_2 dX0_passMinute_16 ?_
        refine r_aloadn hx 0 rfl rfl dX0_passMinute_17 ?_
        refine r_getR hx (c' := 20) (i' := 0) FK0_0 e_v0 rfl wf_X0_11 dX0_passMinute_18 (fun e2 => ?_)
        refine r_iloadn hx 2 rfl rfl dX0_passMinute_21 ?_
        obtain ⟨b3, hf⟩ := f_chk hf
        refine r_aald hx (c' := 5) (i' := (v2.toNatClampNeg)) (by decide) (by decide) (by decide) e2 b3 rfl rfl dX0_passMinute_22 (fun e4 => ?_)
        refine r_iloadn hx 2 rfl rfl dX0_passMinute_23 ?_
        refine r_aloadn hx 0 rfl rfl dX0_passMinute_24 ?_
        refine r_getI hx FK0_1 e_v0 wf_X0_18 dX0_passMinute_25 ?_
        refine r_iconst hx ci_0 dX0_passMinute_28 ?_
        obtain ⟨r7, μ6, c5, hf⟩ := f_bd2 hf
        refine r_callV hx (As := [.int 2, .ref (kad k 5 (v2.toNatClampNeg)), .int v2, .int (gi μ 0 0 1), .int 0]) (rest := [.int (gi μ 0 0 2), .ref (kad k 0 0)]) (st1 := [.int r7, .int (gi μ 0 0 2), .ref (kad k 0 0)]) (c := 8) (i := v1) (TT := T8) (N := 13) MK_X8_worth rfl wi_X8_worth we_X8_worth wm_X0_46 ⟨Nat.le_refl _, Nat.le_refl _⟩ (cX8_worth hk e_v1 e4 c5) e_v1 (Nat.le_of_ble_eq_true rfl) rfl rfl (Nat.le_of_ble_eq_true rfl) rfl dX0_passMinute_29 (fun hb8 => ?_)
        refine r_iadd hx dX0_passMinute_32 ?_
        refine r_putI (ty := .int) hx FK0_2 (fun T N h => by cases h; rfl) e_v0 wf_X0_22 (by decide +kernel) rfl rfl dX0_passMinute_33 ?_
        refine r_aloadn hx 1 rfl rfl dX0_passMinute_36 ?_
        refine r_aloadn hx 0 rfl rfl dX0_passMinute_37 ?_
        refine r_getR hx (c' := 20) (i' := 0) FK0_0 e_v0 rfl wf_X0_11 dX0_passMinute_38 (fun e9 => ?_)
        refine r_iloadn hx 2 rfl rfl dX0_passMinute_41 ?_
        refine r_aald hx (c' := 5) (i' := (v2.toNatClampNeg)) (by decide) (by decide) (by decide) e9 b3 rfl rfl dX0_passMinute_42 (fun e10 => ?_)
        refine r_iloadn hx 2 rfl rfl dX0_passMinute_43 ?_
        refine r_aloadn hx 0 rfl rfl dX0_passMinute_44 ?_
        refine r_getI hx FK0_1 e_v0 wf_X0_18 dX0_passMinute_45 ?_
        refine r_aloadn hx 1 rfl rfl dX0_passMinute_48 ?_
        refine r_getI hx FK8_2 e_v1 wf_X0_50 dX0_passMinute_49 ?_
        obtain ⟨μ12, c11, hf⟩ := f_bd1 hf
        refine r_callV hx (As := [.ref (kad k 5 (v2.toNatClampNeg)), .int v2, .int (gi (si μ6 0 0 2 ((gi μ 0 0 2) + r7)) 0 0 1), .int (gi (si μ6 0 0 2 ((gi μ 0 0 2) + r7)) 8 v1 2)]) (rest := []) (st1 := []) (c := 8) (i := v1) (TT := T8) (N := 13) MK_X8_passMinute rfl wi_X8_passMinute we_X8_passMinute wm_X0_53 ⟨Nat.le_refl _, Nat.le_refl _⟩ (cX8_passMinute hk e_v1 e10 c11) e_v1 (Nat.le_of_ble_eq_true rfl) rfl rfl (Nat.le_of_ble_eq_true rfl) rfl dX0_passMinute_52 (fun hb13 => ?_)
        refine r_iinc (lv' := [(2, .int (v2 + 1)), (0, .ref (kad k 0 0)), (1, .ref (kad k 8 v1))]) hx 2 rfl (congrArg (fun y => v2 + y) ci_1) (Nat.le_of_ble_eq_true rfl) rfl dX0_passMinute_55 ?_
        refine r_goto (tgt := 2) hx rfl dX0_passMinute_58 ?_
        refine r_sub [1, 2, 0] rfl ?_
        exact ih v1 (v2 + 1) μ12 e_v0 e_v1 hf
  unfold fX0_passMinute at hf
  refine r_iconst hx ci_0 dX0_passMinute_0 ?_
  refine r_istoren (lv' := [(2, .int 0), (0, .ref (kad k 0 0)), (1, .ref (kad k 8 a1))]) hx rfl (Nat.le_of_ble_eq_true rfl) rfl dX0_passMinute_1 ?_
  refine r_sub [1, 2, 0] rfl ?_
  exact L2 F a1 0 μ e_this e_a1 hf
theorem dX0_putInto_0 : decode bX0_putInto 0 = .ok (.aload_n 1, 1) := by decide +kernel
theorem dX0_putInto_1 : decode bX0_putInto 1 = .ok (.arraylength, 1) := by decide +kernel
theorem dX0_putInto_2 : decode bX0_putInto 2 = .ok (.bipush 18, 2) := by decide +kernel
theorem dX0_putInto_4 : decode bX0_putInto 4 = .ok (.if_icmp .ge 4, 3) := by decide +kernel
theorem dX0_putInto_8 : decode bX0_putInto 8 = .ok (.iconst 0, 1) := by decide +kernel
theorem dX0_putInto_9 : decode bX0_putInto 9 = .ok (.istore_n 2, 1) := by decide +kernel
theorem dX0_putInto_10 : decode bX0_putInto 10 = .ok (.iload_n 2, 1) := by decide +kernel
theorem dX0_putInto_11 : decode bX0_putInto 11 = .ok (.iconst 4, 1) := by decide +kernel
theorem dX0_putInto_12 : decode bX0_putInto 12 = .ok (.if_icmp .ge 71, 3) := by decide +kernel
theorem dX0_putInto_15 : decode bX0_putInto 15 = .ok (.aload_n 1, 1) := by decide +kernel
theorem dX0_putInto_16 : decode bX0_putInto 16 = .ok (.iconst 4, 1) := by decide +kernel
theorem dX0_putInto_17 : decode bX0_putInto 17 = .ok (.iload_n 2, 1) := by decide +kernel
theorem dX0_putInto_18 : decode bX0_putInto 18 = .ok (.imul, 1) := by decide +kernel
theorem dX0_putInto_19 : decode bX0_putInto 19 = .ok (.aload_n 0, 1) := by decide +kernel
theorem dX0_putInto_20 : decode bX0_putInto 20 = .ok (.getfield 11, 3) := by decide +kernel
theorem dX0_putInto_23 : decode bX0_putInto 23 = .ok (.iload_n 2, 1) := by decide +kernel
theorem dX0_putInto_24 : decode bX0_putInto 24 = .ok (.aaload, 1) := by decide +kernel
theorem dX0_putInto_25 : decode bX0_putInto 25 = .ok (.getfield 57, 3) := by decide +kernel
theorem dX0_putInto_28 : decode bX0_putInto 28 = .ok (.iastore, 1) := by decide +kernel
theorem dX0_putInto_29 : decode bX0_putInto 29 = .ok (.aload_n 1, 1) := by decide +kernel
theorem dX0_putInto_30 : decode bX0_putInto 30 = .ok (.iconst 4, 1) := by decide +kernel
theorem dX0_putInto_31 : decode bX0_putInto 31 = .ok (.iload_n 2, 1) := by decide +kernel
theorem dX0_putInto_32 : decode bX0_putInto 32 = .ok (.imul, 1) := by decide +kernel
theorem dX0_putInto_33 : decode bX0_putInto 33 = .ok (.iconst 1, 1) := by decide +kernel
theorem dX0_putInto_34 : decode bX0_putInto 34 = .ok (.iadd, 1) := by decide +kernel
theorem dX0_putInto_35 : decode bX0_putInto 35 = .ok (.aload_n 0, 1) := by decide +kernel
theorem dX0_putInto_36 : decode bX0_putInto 36 = .ok (.getfield 11, 3) := by decide +kernel
theorem dX0_putInto_39 : decode bX0_putInto 39 = .ok (.iload_n 2, 1) := by decide +kernel
theorem dX0_putInto_40 : decode bX0_putInto 40 = .ok (.aaload, 1) := by decide +kernel
theorem dX0_putInto_41 : decode bX0_putInto 41 = .ok (.getfield 60, 3) := by decide +kernel
theorem dX0_putInto_44 : decode bX0_putInto 44 = .ok (.iastore, 1) := by decide +kernel
theorem dX0_putInto_45 : decode bX0_putInto 45 = .ok (.aload_n 1, 1) := by decide +kernel
theorem dX0_putInto_46 : decode bX0_putInto 46 = .ok (.iconst 4, 1) := by decide +kernel
theorem dX0_putInto_47 : decode bX0_putInto 47 = .ok (.iload_n 2, 1) := by decide +kernel
theorem dX0_putInto_48 : decode bX0_putInto 48 = .ok (.imul, 1) := by decide +kernel
theorem dX0_putInto_49 : decode bX0_putInto 49 = .ok (.iconst 2, 1) := by decide +kernel
theorem dX0_putInto_50 : decode bX0_putInto 50 = .ok (.iadd, 1) := by decide +kernel
theorem dX0_putInto_51 : decode bX0_putInto 51 = .ok (.aload_n 0, 1) := by decide +kernel
theorem dX0_putInto_52 : decode bX0_putInto 52 = .ok (.getfield 11, 3) := by decide +kernel
theorem dX0_putInto_55 : decode bX0_putInto 55 = .ok (.iload_n 2, 1) := by decide +kernel
theorem dX0_putInto_56 : decode bX0_putInto 56 = .ok (.aaload, 1) := by decide +kernel
theorem dX0_putInto_57 : decode bX0_putInto 57 = .ok (.getfield 28, 3) := by decide +kernel
theorem dX0_putInto_60 : decode bX0_putInto 60 = .ok (.iastore, 1) := by decide +kernel
theorem dX0_putInto_61 : decode bX0_putInto 61 = .ok (.aload_n 1, 1) := by decide +kernel
theorem dX0_putInto_62 : decode bX0_putInto 62 = .ok (.iconst 4, 1) := by decide +kernel
theorem dX0_putInto_63 : decode bX0_putInto 63 = .ok (.iload_n 2, 1) := by decide +kernel
theorem dX0_putInto_64 : decode bX0_putInto 64 = .ok (.imul, 1) := by decide +kernel
theorem dX0_putInto_65 : decode bX0_putInto 65 = .ok (.iconst 3, 1) := by decide +kernel
theorem dX0_putInto_66 : decode bX0_putInto 66 = .ok (.iadd, 1) := by decide +kernel
theorem dX0_putInto_67 : decode bX0_putInto 67 = .ok (.aload_n 0, 1) := by decide +kernel
theorem dX0_putInto_68 : decode bX0_putInto 68 = .ok (.getfield 11, 3) := by decide +kernel
theorem dX0_putInto_71 : decode bX0_putInto 71 = .ok (.iload_n 2, 1) := by decide +kernel
theorem dX0_putInto_72 : decode bX0_putInto 72 = .ok (.aaload, 1) := by decide +kernel
theorem dX0_putInto_73 : decode bX0_putInto 73 = .ok (.getfield 31, 3) := by decide +kernel
theorem dX0_putInto_76 : decode bX0_putInto 76 = .ok (.iastore, 1) := by decide +kernel
theorem dX0_putInto_77 : decode bX0_putInto 77 = .ok (.iinc 2 1, 3) := by decide +kernel
theorem dX0_putInto_80 : decode bX0_putInto 80 = .ok (.goto (-70), 3) := by decide +kernel
theorem dX0_putInto_83 : decode bX0_putInto 83 = .ok (.aload_n 1, 1) := by decide +kernel
theorem dX0_putInto_84 : decode bX0_putInto 84 = .ok (.bipush 16, 2) := by decide +kernel
theorem dX0_putInto_86 : decode bX0_putInto 86 = .ok (.aload_n 0, 1) := by decide +kernel
theorem dX0_putInto_87 : decode bX0_putInto 87 = .ok (.getfield 18, 3) := by decide +kernel
theorem dX0_putInto_90 : decode bX0_putInto 90 = .ok (.iastore, 1) := by decide +kernel
theorem dX0_putInto_91 : decode bX0_putInto 91 = .ok (.aload_n 1, 1) := by decide +kernel
theorem dX0_putInto_92 : decode bX0_putInto 92 = .ok (.bipush 17, 2) := by decide +kernel
theorem dX0_putInto_94 : decode bX0_putInto 94 = .ok (.aload_n 0, 1) := by decide +kernel
theorem dX0_putInto_95 : decode bX0_putInto 95 = .ok (.getfield 22, 3) := by decide +kernel
theorem dX0_putInto_98 : decode bX0_putInto 98 = .ok (.iastore, 1) := by decide +kernel
theorem dX0_putInto_99 : decode bX0_putInto 99 = .ok (.return_, 1) := by decide +kernel
set_option maxRecDepth 20000 in
set_option maxHeartbeats 4000000 in
theorem cX0_putInto {l : Launch} {k : Kx} {F : Nat} {a1 : Nat} {μ μ' : Mm} (hk : kok k) (e_this : kex k 0 0) (e_a1 : kex k 92 a1) (hf : fX0_putInto F a1 μ = some μ') : MM l k 0 yX0_putInto bX0_putInto 3 none [.ref (kad k 0 0), .ref (kad k 92 a1)] μ none μ' := by
  refine MM.of (lv := [(0, .ref (kad k 0 0)), (1, .ref (kad k 92 a1))]) (plainFor_of_name (by decide)) hk (Nat.le_of_ble_eq_true rfl) rfl (fun z hl hx => ?_)
  subst hl
  have hx : Ok z k bX0_putInto 3 "RopeDance$Evening" none 0 (0, 0) := hx
  have L10 : ∀ (n : Nat) (v1 : Nat) (v2 : Int32) (μ : Mm) (e_v0 : kex k 0 0) (e_v1 : kex k 92 v1), fX0_putInto_L10 F n v1 v2 μ = some μ' → Gw z k 3 (k, (0, 0), none, none, μ') (0, 0) 10 μ [(0, .ref (kad k 0 0)), (1, .ref (kad k 92 v1)), (2, .int v2)] [] := by
    intro  n
    induction n with
    | zero =>
      intro v1 v2 μ e_v0 e_v1 hf
      exact f_no (show (none : Option (Mm)) = _ from hf)
    | succ n ih =>
      intro v1 v2 μ e_v0 e_v1 hf
      rw [fX0_putInto_L10] at hf
      refine r_iloadn hx 2 rfl rfl dX0_putInto_10 ?_
      refine r_iconst hx ci_4 dX0_putInto_11 ?_
      refine r_icge (tgt := 83) hx rfl dX0_putInto_12 (fun q2 => ?_) (fun q2 => ?_)
      · have hf := (f_ite hf).1 q2
        refine r_aloadn hx 1 rfl rfl dX0_putInto_83 ?_
        refine r_bipush hx cb_16 dX0_putInto_84 ?_
        refine r_aloadn hx 0 rfl rfl dX0_putInto_86 ?_
        refine r_getI hx FK0_1 e_v0 wf_X0_18 dX0_putInto_87 ?_
        refine r_iast hx (by decide) rfl e_v1 (by decide) ti_16 dX0_putInto_90 ?_
        refine r_aloadn hx 1 rfl rfl dX0_putInto_91 ?_
        refine r_bipush hx cb_17 dX0_putInto_92 ?_
        refine r_aloadn hx 0 rfl rfl dX0_putInto_94 ?_
        refine r_getI hx FK0_2 e_v0 wf_X0_22 dX0_putInto_95 ?_
        refine r_iast hx (by decide) rfl e_v1 (by decide) ti_17 dX0_putInto_98 ?_
        exact r_vret hx hf dX0_putInto_99
      · have hf := (f_ite hf).2 q2
        refine r_aloadn hx 1 rfl rfl dX0_putInto_15 ?_
        refine r_iconst hx ci_4 dX0_putInto_16 ?_
        refine r_iloadn hx 2 rfl rfl dX0_putInto_17 ?_
        refine r_imul hx dX0_putInto_18 ?_
        refine r_aloadn hx 0 rfl rfl dX0_putInto_19 ?_
        refine r_getR hx (c' := 20) (i' := 0) FK0_0 e_v0 rfl wf_X0_11 dX0_putInto_20 (fun e3 => ?_)
        refine r_iloadn hx 2 rfl rfl dX0_putInto_23 ?_
        obtain ⟨b4, hf⟩ := f_chk hf
        refine r_aald hx (c' := 5) (i' := (v2.toNatClampNeg)) (by decide) (by decide) (by decide) e3 b4 rfl rfl dX0_putInto_24 (fun e5 => ?_)
        refine r_getI hx FK5_0 e5 wf_X0_57 dX0_putInto_25 ?_
        obtain ⟨b6, hf⟩ := f_chk hf
        refine r_iast hx (by decide) rfl e_v1 b6 rfl dX0_putInto_28 ?_
        refine r_aloadn hx 1 rfl rfl dX0_putInto_29 ?_
        refine r_iconst hx ci_4 dX0_putInto_30 ?_
        refine r_iloadn hx 2 rfl rfl dX0_putInto_31 ?_
        refine r_imul hx dX0_putInto_32 ?_
        refine r_iconst hx ci_1 dX0_putInto_33 ?_
        refine r_iadd hx dX0_putInto_34 ?_
        refine r_aloadn hx 0 rfl rfl dX0_putInto_35 ?_
        refine r_getR hx (c' := 20) (i' := 0) FK0_0 e_v0 rfl wf_X0_11 dX0_putInto_36 (fun e7 => ?_)
        refine r_iloadn hx 2 rfl rfl dX0_putInto_39 ?_
        refine r_aald hx (c' := 5) (i' := (v2.toNatClampNeg)) (by decide) (by decide) (by decide) e7 b4 rfl rfl dX0_putInto_40 (fun e8 => ?_)
        refine r_getI hx FK5_1 e8 wf_X0_60 dX0_putInto_41 ?_
        obtain ⟨b9, hf⟩ := f_chk hf
        refine r_iast hx (by decide) rfl e_v1 b9 rfl dX0_putInto_44 ?_
        refine r_aloadn hx 1 rfl rfl dX0_putInto_45 ?_
        refine r_iconst hx ci_4 dX0_putInto_46 ?_
        refine r_iloadn hx 2 rfl rfl dX0_putInto_47 ?_
        refine r_imul hx dX0_putInto_48 ?_
        refine r_iconst hx ci_2 dX0_putInto_49 ?_
        refine r_iadd hx dX0_putInto_50 ?_
        refine r_aloadn hx 0 rfl rfl dX0_putInto_51 ?_
        refine r_getR hx (c' := 20) (i' := 0) FK0_0 e_v0 rfl wf_X0_11 dX0_putInto_52 (fun e10 => ?_)
        refine r_iloadn hx 2 rfl rfl dX0_putInto_55 ?_
        refine r_aald hx (c' := 5) (i' := (v2.toNatClampNeg)) (by decide) (by decide) (by decide) e10 b4 rfl rfl dX0_putInto_56 (fun e11 => ?_)
        refine r_getI hx FK5_2 e11 wf_X0_28 dX0_putInto_57 ?_
        obtain ⟨b12, hf⟩ := f_chk hf
        refine r_iast hx (by decide) rfl e_v1 b12 rfl dX0_putInto_60 ?_
        refine r_aloadn hx 1 rfl rfl dX0_putInto_61 ?_
        refine r_iconst hx ci_4 dX0_putInto_62 ?_
        refine r_iloadn hx 2 rfl rfl dX0_putInto_63 ?_
        refine r_imul hx dX0_putInto_64 ?_
        refine r_iconst hx ci_3 dX0_putInto_65 ?_
        refine r_iadd hx dX0_putInto_66 ?_
        refine r_aloadn hx 0 rfl rfl dX0_putInto_67 ?_
        refine r_getR hx (c' := 20) (i' := 0) FK0_0 e_v0 rfl wf_X0_11 dX0_putInto_68 (fun e13 => ?_)
        refine r_iloadn hx 2 rfl rfl dX0_putInto_71 ?_
        refine r_aald hx (c' := 5) (i' := (v2.toNatClampNeg)) (by decide) (by decide) (by decide) e13 b4 rfl rfl dX0_putInto_72 (fun e14 => ?_)
        refine r_getI hx FK5_3 e14 wf_X0_31 dX0_putInto_73 ?_
        obtain ⟨b15, hf⟩ := f_chk hf
        refine r_iast hx (by decide) rfl e_v1 b15 rfl dX0_putInto_76 ?_
        refine r_iinc (lv' := [(2, .int (v2 + 1)), (0, .ref (kad k 0 0)), (1, .ref (kad k 92 v1))]) hx 2 rfl (congrArg (fun y => v2 + y) ci_1) (Nat.le_of_ble_eq_true rfl) rfl dX0_putInto_77 ?_
        refine r_goto (tgt := 10) hx rfl dX0_putInto_80 ?_
        refine r_sub [1, 2, 0] rfl ?_
        exact ih v1 (v2 + 1) (si (si (si (si μ 92 v1 (4 * v2).toNatClampNeg (gi μ 5 (v2.toNatClampNeg) 0)) 92 v1 ((4 * v2) + 1).toNatClampNeg (gi (si μ 92 v1 (4 * v2).toNatClampNeg (gi μ 5 (v2.toNatClampNeg) 0)) 5 (v2.toNatClampNeg) 1)) 92 v1 ((4 * v2) + 2).toNatClampNeg (gi (si (si μ 92 v1 (4 * v2).toNatClampNeg (gi μ 5 (v2.toNatClampNeg) 0)) 92 v1 ((4 * v2) + 1).toNatClampNeg (gi (si μ 92 v1 (4 * v2).toNatClampNeg (gi μ 5 (v2.toNatClampNeg) 0)) 5 (v2.toNatClampNeg) 1)) 5 (v2.toNatClampNeg) 2)) 92 v1 ((4 * v2) + 3).toNatClampNeg (gi (si (si (si μ 92 v1 (4 * v2).toNatClampNeg (gi μ 5 (v2.toNatClampNeg) 0)) 92 v1 ((4 * v2) + 1).toNatClampNeg (gi (si μ 92 v1 (4 * v2).toNatClampNeg (gi μ 5 (v2.toNatClampNeg) 0)) 5 (v2.toNatClampNeg) 1)) 92 v1 ((4 * v2) + 2).toNatClampNeg (gi (si (si μ 92 v1 (4 * v2).toNatClampNeg (gi μ 5 (v2.toNatClampNeg) 0)) 92 v1 ((4 * v2) + 1).toNatClampNeg (gi (si μ 92 v1 (4 * v2).toNatClampNeg (gi μ 5 (v2.toNatClampNeg) 0)) 5 (v2.toNatClampNeg) 1)) 5 (v2.toNatClampNeg) 2)) 5 (v2.toNatClampNeg) 3)) e_v0 e_v1 hf
  unfold fX0_putInto at hf
  refine r_aloadn hx 1 rfl rfl dX0_putInto_0 ?_
  refine r_alen (v := 18) hx (by decide) (by decide) e_a1 (by decide) dX0_putInto_1 ?_
  refine r_bipush hx cb_18 dX0_putInto_2 ?_
  refine r_icge (tgt := 8) hx rfl dX0_putInto_4 (fun _ => ?_) (fun q => absurd (by decide) q)
  refine r_iconst hx ci_0 dX0_putInto_8 ?_
  refine r_istoren (lv' := [(2, .int 0), (0, .ref (kad k 0 0)), (1, .ref (kad k 92 a1))]) hx rfl (Nat.le_of_ble_eq_true rfl) rfl dX0_putInto_9 ?_
  refine r_sub [1, 2, 0] rfl ?_
  exact L10 F a1 0 μ e_this e_a1 hf
theorem dX0_takeFrom_0 : decode bX0_takeFrom 0 = .ok (.aload_n 1, 1) := by decide +kernel
theorem dX0_takeFrom_1 : decode bX0_takeFrom 1 = .ok (.arraylength, 1) := by decide +kernel
theorem dX0_takeFrom_2 : decode bX0_takeFrom 2 = .ok (.bipush 18, 2) := by decide +kernel
theorem dX0_takeFrom_4 : decode bX0_takeFrom 4 = .ok (.if_icmp .ge 4, 3) := by decide +kernel
theorem dX0_takeFrom_8 : decode bX0_takeFrom 8 = .ok (.iconst 0, 1) := by decide +kernel
theorem dX0_takeFrom_9 : decode bX0_takeFrom 9 = .ok (.istore_n 2, 1) := by decide +kernel
theorem dX0_takeFrom_10 : decode bX0_takeFrom 10 = .ok (.iload_n 2, 1) := by decide +kernel
theorem dX0_takeFrom_11 : decode bX0_takeFrom 11 = .ok (.iconst 4, 1) := by decide +kernel
theorem dX0_takeFrom_12 : decode bX0_takeFrom 12 = .ok (.if_icmp .ge 71, 3) := by decide +kernel
theorem dX0_takeFrom_15 : decode bX0_takeFrom 15 = .ok (.aload_n 0, 1) := by decide +kernel
theorem dX0_takeFrom_16 : decode bX0_takeFrom 16 = .ok (.getfield 11, 3) := by decide +kernel
theorem dX0_takeFrom_19 : decode bX0_takeFrom 19 = .ok (.iload_n 2, 1) := by decide +kernel
theorem dX0_takeFrom_20 : decode bX0_takeFrom 20 = .ok (.aaload, 1) := by decide +kernel
theorem dX0_takeFrom_21 : decode bX0_takeFrom 21 = .ok (.aload_n 1, 1) := by decide +kernel
theorem dX0_takeFrom_22 : decode bX0_takeFrom 22 = .ok (.iconst 4, 1) := by decide +kernel
theorem dX0_takeFrom_23 : decode bX0_takeFrom 23 = .ok (.iload_n 2, 1) := by decide +kernel
theorem dX0_takeFrom_24 : decode bX0_takeFrom 24 = .ok (.imul, 1) := by decide +kernel
theorem dX0_takeFrom_25 : decode bX0_takeFrom 25 = .ok (.iaload, 1) := by decide +kernel
theorem dX0_takeFrom_26 : decode bX0_takeFrom 26 = .ok (.putfield 57, 3) := by decide +kernel
theorem dX0_takeFrom_29 : decode bX0_takeFrom 29 = .ok (.aload_n 0, 1) := by decide +kernel
theorem dX0_takeFrom_30 : decode bX0_takeFrom 30 = .ok (.getfield 11, 3) := by decide +kernel
theorem dX0_takeFrom_33 : decode bX0_takeFrom 33 = .ok (.iload_n 2, 1) := by decide +kernel
theorem dX0_takeFrom_34 : decode bX0_takeFrom 34 = .ok (.aaload, 1) := by decide +kernel
theorem dX0_takeFrom_35 : decode bX0_takeFrom 35 = .ok (.aload_n 1, 1) := by decide +kernel
theorem dX0_takeFrom_36 : decode bX0_takeFrom 36 = .ok (.iconst 4, 1) := by decide +kernel
theorem dX0_takeFrom_37 : decode bX0_takeFrom 37 = .ok (.iload_n 2, 1) := by decide +kernel
theorem dX0_takeFrom_38 : decode bX0_takeFrom 38 = .ok (.imul, 1) := by decide +kernel
theorem dX0_takeFrom_39 : decode bX0_takeFrom 39 = .ok (.iconst 1, 1) := by decide +kernel
theorem dX0_takeFrom_40 : decode bX0_takeFrom 40 = .ok (.iadd, 1) := by decide +kernel
theorem dX0_takeFrom_41 : decode bX0_takeFrom 41 = .ok (.iaload, 1) := by decide +kernel
theorem dX0_takeFrom_42 : decode bX0_takeFrom 42 = .ok (.putfield 60, 3) := by decide +kernel
theorem dX0_takeFrom_45 : decode bX0_takeFrom 45 = .ok (.aload_n 0, 1) := by decide +kernel
theorem dX0_takeFrom_46 : decode bX0_takeFrom 46 = .ok (.getfield 11, 3) := by decide +kernel
theorem dX0_takeFrom_49 : decode bX0_takeFrom 49 = .ok (.iload_n 2, 1) := by decide +kernel
theorem dX0_takeFrom_50 : decode bX0_takeFrom 50 = .ok (.aaload, 1) := by decide +kernel
theorem dX0_takeFrom_51 : decode bX0_takeFrom 51 = .ok (.aload_n 1, 1) := by decide +kernel
theorem dX0_takeFrom_52 : decode bX0_takeFrom 52 = .ok (.iconst 4, 1) := by decide +kernel
theorem dX0_takeFrom_53 : decode bX0_takeFrom 53 = .ok (.iload_n 2, 1) := by decide +kernel
theorem dX0_takeFrom_54 : decode bX0_takeFrom 54 = .ok (.imul, 1) := by decide +kernel
theorem dX0_takeFrom_55 : decode bX0_takeFrom 55 = .ok (.iconst 2, 1) := by decide +kernel
theorem dX0_takeFrom_56 : decode bX0_takeFrom 56 = .ok (.iadd, 1) := by decide +kernel
theorem dX0_takeFrom_57 : decode bX0_takeFrom 57 = .ok (.iaload, 1) := by decide +kernel
theorem dX0_takeFrom_58 : decode bX0_takeFrom 58 = .ok (.putfield 28, 3) := by decide +kernel
theorem dX0_takeFrom_61 : decode bX0_takeFrom 61 = .ok (.aload_n 0, 1) := by decide +kernel
theorem dX0_takeFrom_62 : decode bX0_takeFrom 62 = .ok (.getfield 11, 3) := by decide +kernel
theorem dX0_takeFrom_65 : decode bX0_takeFrom 65 = .ok (.iload_n 2, 1) := by decide +kernel
theorem dX0_takeFrom_66 : decode bX0_takeFrom 66 = .ok (.aaload, 1) := by decide +kernel
theorem dX0_takeFrom_67 : decode bX0_takeFrom 67 = .ok (.aload_n 1, 1) := by decide +kernel
theorem dX0_takeFrom_68 : decode bX0_takeFrom 68 = .ok (.iconst 4, 1) := by decide +kernel
theorem dX0_takeFrom_69 : decode bX0_takeFrom 69 = .ok (.iload_n 2, 1) := by decide +kernel
theorem dX0_takeFrom_70 : decode bX0_takeFrom 70 = .ok (.imul, 1) := by decide +kernel
theorem dX0_takeFrom_71 : decode bX0_takeFrom 71 = .ok (.iconst 3, 1) := by decide +kernel
theorem dX0_takeFrom_72 : decode bX0_takeFrom 72 = .ok (.iadd, 1) := by decide +kernel
theorem dX0_takeFrom_73 : decode bX0_takeFrom 73 = .ok (.iaload, 1) := by decide +kernel
theorem dX0_takeFrom_74 : decode bX0_takeFrom 74 = .ok (.putfield 31, 3) := by decide +kernel
theorem dX0_takeFrom_77 : decode bX0_takeFrom 77 = .ok (.iinc 2 1, 3) := by decide +kernel
theorem dX0_takeFrom_80 : decode bX0_takeFrom 80 = .ok (.goto (-70), 3) := by decide +kernel
theorem dX0_takeFrom_83 : decode bX0_takeFrom 83 = .ok (.aload_n 0, 1) := by decide +kernel
theorem dX0_takeFrom_84 : decode bX0_takeFrom 84 = .ok (.aload_n 1, 1) := by decide +kernel
theorem dX0_takeFrom_85 : decode bX0_takeFrom 85 = .ok (.bipush 16, 2) := by decide +kernel
theorem dX0_takeFrom_87 : decode bX0_takeFrom 87 = .ok (.iaload, 1) := by decide +kernel
theorem dX0_takeFrom_88 : decode bX0_takeFrom 88 = .ok (.putfield 18, 3) := by decide +kernel
theorem dX0_takeFrom_91 : decode bX0_takeFrom 91 = .ok (.aload_n 0, 1) := by decide +kernel
theorem dX0_takeFrom_92 : decode bX0_takeFrom 92 = .ok (.aload_n 1, 1) := by decide +kernel
theorem dX0_takeFrom_93 : decode bX0_takeFrom 93 = .ok (.bipush 17, 2) := by decide +kernel
theorem dX0_takeFrom_95 : decode bX0_takeFrom 95 = .ok (.iaload, 1) := by decide +kernel
theorem dX0_takeFrom_96 : decode bX0_takeFrom 96 = .ok (.putfield 22, 3) := by decide +kernel
theorem dX0_takeFrom_99 : decode bX0_takeFrom 99 = .ok (.return_, 1) := by decide +kernel
set_option maxRecDepth 20000 in
set_option maxHeartbeats 4000000 in
theorem cX0_takeFrom {l : Launch} {k : Kx} {F : Nat} {a1 : Nat} {μ μ' : Mm} (hk : kok k) (e_this : kex k 0 0) (e_a1 : kex k 92 a1) (hf : fX0_takeFrom F a1 μ = some μ') : MM l k 0 yX0_takeFrom bX0_takeFrom 3 none [.ref (kad k 0 0), .ref (kad k 92 a1)] μ none μ' := by
  refine MM.of (lv := [(0, .ref (kad k 0 0)), (1, .ref (kad k 92 a1))]) (plainFor_of_name (by decide)) hk (Nat.le_of_ble_eq_true rfl) rfl (fun z hl hx => ?_)
  subst hl
  have hx : Ok z k bX0_takeFrom 3 "RopeDance$Evening" none 0 (0, 0) := hx
  have L10 : ∀ (n : Nat) (v1 : Nat) (v2 : Int32) (μ : Mm) (e_v0 : kex k 0 0) (e_v1 : kex k 92 v1), fX0_takeFrom_L10 F n v1 v2 μ = some μ' → Gw z k 3 (k, (0, 0), none, none, μ') (0, 0) 10 μ [(0, .ref (kad k 0 0)), (1, .ref (kad k 92 v1)), (2, .int v2)] [] := by
    intro  n
    induction n with
    | zero =>
      intro v1 v2 μ e_v0 e_v1 hf
      exact f_no (show (none : Option (Mm)) = _ from hf)
    | succ n ih =>
      intro v1 v2 μ e_v0 e_v1 hf
      rw [fX0_takeFrom_L10] at hf
      refine r_iloadn hx 2 rfl rfl dX0_takeFrom_10 ?_
      refine r_iconst hx ci_4 dX0_takeFrom_11 ?_
      refine r_icge (tgt := 83) hx rfl dX0_takeFrom_12 (fun q2 => ?_) (fun q2 => ?_)
      · have hf := (f_ite hf).1 q2
        refine r_aloadn hx 0 rfl rfl dX0_takeFrom_83 ?_
        refine r_aloadn hx 1 rfl rfl dX0_takeFrom_84 ?_
        refine r_bipush hx cb_16 dX0_takeFrom_85 ?_
        refine r_iald hx (by decide) rfl e_v1 (by decide) ti_16 dX0_takeFrom_87 ?_
        refine r_putI (ty := .int) hx FK0_1 (fun T N h => by cases h; rfl) e_v0 wf_X0_18 (by decide +kernel) rfl rfl dX0_takeFrom_88 ?_
        refine r_aloadn hx 0 rfl rfl dX0_takeFrom_91 ?_
        refine r_aloadn hx 1 rfl rfl dX0_takeFrom_92 ?_
        refine r_bipush hx cb_17 dX0_takeFrom_93 ?_
        refine r_iald hx (by decide) rfl e_v1 (by decide) ti_17 dX0_takeFrom_95 ?_
        refine r_putI (ty := .int) hx FK0_2 (fun T N h => by cases h; rfl) e_v0 wf_X0_22 (by decide +kernel) rfl rfl dX0_takeFrom_96 ?_
        exact r_vret hx hf dX0_takeFrom_99
      · have hf := (f_ite hf).2 q2
        refine r_aloadn hx 0 rfl rfl dX0_takeFrom_15 ?_
        refine r_getR hx (c' := 20) (i' := 0) FK0_0 e_v0 rfl wf_X0_11 dX0_takeFrom_16 (fun e3 => ?_)
        refine r_iloadn hx 2 rfl rfl dX0_takeFrom_19 ?_
        obtain ⟨b4, hf⟩ := f_chk hf
        refine r_aald hx (c' := 5) (i' := (v2.toNatClampNeg)) (by decide) (by decide) (by decide) e3 b4 rfl rfl dX0_takeFrom_20 (fun e5 => ?_)
        refine r_aloadn hx 1 rfl rfl dX0_takeFrom_21 ?_
        refine r_iconst hx ci_4 dX0_takeFrom_22 ?_
        refine r_iloadn hx 2 rfl rfl dX0_takeFrom_23 ?_
        refine r_imul hx dX0_takeFrom_24 ?_
        obtain ⟨b6, hf⟩ := f_chk hf
        refine r_iald hx (by decide) rfl e_v1 b6 rfl dX0_takeFrom_25 ?_
        refine r_putI (ty := .int) hx FK5_0 (fun T N h => by cases h; rfl) e5 wf_X0_57 (by decide +kernel) rfl rfl dX0_takeFrom_26 ?_
        refine r_aloadn hx 0 rfl rfl dX0_takeFrom_29 ?_
        refine r_getR hx (c' := 20) (i' := 0) FK0_0 e_v0 rfl wf_X0_11 dX0_takeFrom_30 (fun e7 => ?_)
        refine r_iloadn hx 2 rfl rfl dX0_takeFrom_33 ?_
        refine r_aald hx (c' := 5) (i' := (v2.toNatClampNeg)) (by decide) (by decide) (by decide) e7 b4 rfl rfl dX0_takeFrom_34 (fun e8 => ?_)
        refine r_aloadn hx 1 rfl rfl dX0_takeFrom_35 ?_
        refine r_iconst hx ci_4 dX0_takeFrom_36 ?_
        refine r_iloadn hx 2 rfl rfl dX0_takeFrom_37 ?_
        refine r_imul hx dX0_takeFrom_38 ?_
        refine r_iconst hx ci_1 dX0_takeFrom_39 ?_
        refine r_iadd hx dX0_takeFrom_40 ?_
        obtain ⟨b9, hf⟩ := f_chk hf
        refine r_iald hx (by decide) rfl e_v1 b9 rfl dX0_takeFrom_41 ?_
        refine r_putI (ty := .int) hx FK5_1 (fun T N h => by cases h; rfl) e8 wf_X0_60 (by decide +kernel) rfl rfl dX0_takeFrom_42 ?_
        refine r_aloadn hx 0 rfl rfl dX0_takeFrom_45 ?_
        refine r_getR hx (c' := 20) (i' := 0) FK0_0 e_v0 rfl wf_X0_11 dX0_takeFrom_46 (fun e10 => ?_)
        refine r_iloadn hx 2 rfl rfl dX0_takeFrom_49 ?_
        refine r_aald hx (c' := 5) (i' := (v2.toNatClampNeg)) (by decide) (by decide) (by decide) e10 b4 rfl rfl dX0_takeFrom_50 (fun e11 => ?_)
        refine r_aloadn hx 1 rfl rfl dX0_takeFrom_51 ?_
        refine r_iconst hx ci_4 dX0_takeFrom_52 ?_
        refine r_iloadn hx 2 rfl rfl dX0_takeFrom_53 ?_
        refine r_imul hx dX0_takeFrom_54 ?_
        refine r_iconst hx ci_2 dX0_takeFrom_55 ?_
        refine r_iadd hx dX0_takeFrom_56 ?_
        obtain ⟨b12, hf⟩ := f_chk hf
        refine r_iald hx (by decide) rfl e_v1 b12 rfl dX0_takeFrom_57 ?_
        refine r_putI (ty := .int) hx FK5_2 (fun T N h => by cases h; rfl) e11 wf_X0_28 (by decide +kernel) rfl rfl dX0_takeFrom_58 ?_
        refine r_aloadn hx 0 rfl rfl dX0_takeFrom_61 ?_
        refine r_getR hx (c' := 20) (i' := 0) FK0_0 e_v0 rfl wf_X0_11 dX0_takeFrom_62 (fun e13 => ?_)
        refine r_iloadn hx 2 rfl rfl dX0_takeFrom_65 ?_
        refine r_aald hx (c' := 5) (i' := (v2.toNatClampNeg)) (by decide) (by decide) (by decide) e13 b4 rfl rfl dX0_takeFrom_66 (fun e14 => ?_)
        refine r_aloadn hx 1 rfl rfl dX0_takeFrom_67 ?_
        refine r_iconst hx ci_4 dX0_takeFrom_68 ?_
        refine r_iloadn hx 2 rfl rfl dX0_takeFrom_69 ?_
        refine r_imul hx dX0_takeFrom_70 ?_
        refine r_iconst hx ci_3 dX0_takeFrom_71 ?_
        refine r_iadd hx dX0_takeFrom_72 ?_
        obtain ⟨b15, hf⟩ := f_chk hf
        refine r_iald hx (by decide) rfl e_v1 b15 rfl dX0_takeFrom_73 ?_
        refine r_putI (ty := .int) hx FK5_3 (fun T N h => by cases h; rfl) e14 wf_X0_31 (by decide +kernel) rfl rfl dX0_takeFrom_74 ?_
        refine r_iinc (lv' := [(2, .int (v2 + 1)), (0, .ref (kad k 0 0)), (1, .ref (kad k 92 v1))]) hx 2 rfl (congrArg (fun y => v2 + y) ci_1) (Nat.le_of_ble_eq_true rfl) rfl dX0_takeFrom_77 ?_
        refine r_goto (tgt := 10) hx rfl dX0_takeFrom_80 ?_
        refine r_sub [1, 2, 0] rfl ?_
        exact ih v1 (v2 + 1) (si (si (si (si μ 5 (v2.toNatClampNeg) 0 (gi μ 92 v1 (4 * v2).toNatClampNeg)) 5 (v2.toNatClampNeg) 1 (gi (si μ 5 (v2.toNatClampNeg) 0 (gi μ 92 v1 (4 * v2).toNatClampNeg)) 92 v1 ((4 * v2) + 1).toNatClampNeg)) 5 (v2.toNatClampNeg) 2 (gi (si (si μ 5 (v2.toNatClampNeg) 0 (gi μ 92 v1 (4 * v2).toNatClampNeg)) 5 (v2.toNatClampNeg) 1 (gi (si μ 5 (v2.toNatClampNeg) 0 (gi μ 92 v1 (4 * v2).toNatClampNeg)) 92 v1 ((4 * v2) + 1).toNatClampNeg)) 92 v1 ((4 * v2) + 2).toNatClampNeg)) 5 (v2.toNatClampNeg) 3 (gi (si (si (si μ 5 (v2.toNatClampNeg) 0 (gi μ 92 v1 (4 * v2).toNatClampNeg)) 5 (v2.toNatClampNeg) 1 (gi (si μ 5 (v2.toNatClampNeg) 0 (gi μ 92 v1 (4 * v2).toNatClampNeg)) 92 v1 ((4 * v2) + 1).toNatClampNeg)) 5 (v2.toNatClampNeg) 2 (gi (si (si μ 5 (v2.toNatClampNeg) 0 (gi μ 92 v1 (4 * v2).toNatClampNeg)) 5 (v2.toNatClampNeg) 1 (gi (si μ 5 (v2.toNatClampNeg) 0 (gi μ 92 v1 (4 * v2).toNatClampNeg)) 92 v1 ((4 * v2) + 1).toNatClampNeg)) 92 v1 ((4 * v2) + 2).toNatClampNeg)) 92 v1 ((4 * v2) + 3).toNatClampNeg)) e_v0 e_v1 hf
  unfold fX0_takeFrom at hf
  refine r_aloadn hx 1 rfl rfl dX0_takeFrom_0 ?_
  refine r_alen (v := 18) hx (by decide) (by decide) e_a1 (by decide) dX0_takeFrom_1 ?_
  refine r_bipush hx cb_18 dX0_takeFrom_2 ?_
  refine r_icge (tgt := 8) hx rfl dX0_takeFrom_4 (fun _ => ?_) (fun q => absurd (by decide) q)
  refine r_iconst hx ci_0 dX0_takeFrom_8 ?_
  refine r_istoren (lv' := [(2, .int 0), (0, .ref (kad k 0 0)), (1, .ref (kad k 92 a1))]) hx rfl (Nat.le_of_ble_eq_true rfl) rfl dX0_takeFrom_9 ?_
  refine r_sub [1, 2, 0] rfl ?_
  exact L10 F a1 0 μ e_this e_a1 hf
theorem dX1_clear_0 : decode bX1_clear 0 = .ok (.aload_n 0, 1) := by decide +kernel
theorem dX1_clear_1 : decode bX1_clear 1 = .ok (.iconst 0, 1) := by decide +kernel
theorem dX1_clear_2 : decode bX1_clear 2 = .ok (.putfield 23, 3) := by decide +kernel
theorem dX1_clear_5 : decode bX1_clear 5 = .ok (.iconst 0, 1) := by decide +kernel
theorem dX1_clear_6 : decode bX1_clear 6 = .ok (.istore_n 1, 1) := by decide +kernel
theorem dX1_clear_7 : decode bX1_clear 7 = .ok (.iload_n 1, 1) := by decide +kernel
theorem dX1_clear_8 : decode bX1_clear 8 = .ok (.iconst 3, 1) := by decide +kernel
theorem dX1_clear_9 : decode bX1_clear 9 = .ok (.if_icmp .ge 16, 3) := by decide +kernel
theorem dX1_clear_12 : decode bX1_clear 12 = .ok (.aload_n 0, 1) := by decide +kernel
theorem dX1_clear_13 : decode bX1_clear 13 = .ok (.getfield 19, 3) := by decide +kernel
theorem dX1_clear_16 : decode bX1_clear 16 = .ok (.iload_n 1, 1) := by decide +kernel
theorem dX1_clear_17 : decode bX1_clear 17 = .ok (.iconst 0, 1) := by decide +kernel
theorem dX1_clear_18 : decode bX1_clear 18 = .ok (.bastore, 1) := by decide +kernel
theorem dX1_clear_19 : decode bX1_clear 19 = .ok (.iinc 1 1, 3) := by decide +kernel
theorem dX1_clear_22 : decode bX1_clear 22 = .ok (.goto (-15), 3) := by decide +kernel
theorem dX1_clear_25 : decode bX1_clear 25 = .ok (.return_, 1) := by decide +kernel
set_option maxRecDepth 20000 in
set_option maxHeartbeats 4000000 in
theorem cX1_clear {l : Launch} {k : Kx} {F : Nat} {μ μ' : Mm} (hk : kok k) (e_this : kex k 1 0) (hf : fX1_clear F μ = some μ') : MM l k 0 yX1_clear bX1_clear 2 none [.ref (kad k 1 0)] μ none μ' := by
  refine MM.of (lv := [(0, .ref (kad k 1 0))]) (plainFor_of_name (by decide)) hk (Nat.le_of_ble_eq_true rfl) rfl (fun z hl hx => ?_)
  subst hl
  have hx : Ok z k bX1_clear 2 "RopeDance$Memory" none 0 (0, 0) := hx
  have L7 : ∀ (n : Nat) (v1 : Int32) (μ : Mm) (e_v0 : kex k 1 0), fX1_clear_L7 F n v1 μ = some μ' → Gw z k 2 (k, (0, 0), none, none, μ') (0, 0) 7 μ [(0, .ref (kad k 1 0)), (1, .int v1)] [] := by
    intro  n
    induction n with
    | zero =>
      intro v1 μ e_v0 hf
      exact f_no (show (none : Option (Mm)) = _ from hf)
    | succ n ih =>
      intro v1 μ e_v0 hf
      rw [fX1_clear_L7] at hf
      refine r_iloadn hx 1 rfl rfl dX1_clear_7 ?_
      refine r_iconst hx ci_3 dX1_clear_8 ?_
      refine r_icge (tgt := 25) hx rfl dX1_clear_9 (fun q1 => ?_) (fun q1 => ?_)
      · have hf := (f_ite hf).1 q1
        exact r_vret hx hf dX1_clear_25
      · have hf := (f_ite hf).2 q1
        refine r_aloadn hx 0 rfl rfl dX1_clear_12 ?_
        refine r_getR hx (c' := 23) (i' := 0) FK1_4 e_v0 rfl wf_X1_19 dX1_clear_13 (fun e2 => ?_)
        refine r_iloadn hx 1 rfl rfl dX1_clear_16 ?_
        refine r_iconst hx ci_0 dX1_clear_17 ?_
        obtain ⟨b3, hf⟩ := f_chk hf
        refine r_zast hx (by decide) rfl e2 b3 rfl dX1_clear_18 ?_
        refine r_iinc (lv' := [(1, .int (v1 + 1)), (0, .ref (kad k 1 0))]) hx 1 rfl (congrArg (fun y => v1 + y) ci_1) (Nat.le_of_ble_eq_true rfl) rfl dX1_clear_19 ?_
        refine r_goto (tgt := 7) hx rfl dX1_clear_22 ?_
        refine r_sub [1, 0] rfl ?_
        exact ih (v1 + 1) (si μ 23 0 v1.toNatClampNeg (vp_nar .boolean 0)) e_v0 hf
  unfold fX1_clear at hf
  refine r_aloadn hx 0 rfl rfl dX1_clear_0 ?_
  refine r_iconst hx ci_0 dX1_clear_1 ?_
  refine r_putI (ty := .int) hx FK1_0 (fun T N h => by cases h; rfl) e_this wf_X1_23 (by decide +kernel) rfl rfl dX1_clear_2 ?_
  refine r_iconst hx ci_0 dX1_clear_5 ?_
  refine r_istoren (lv' := [(1, .int 0), (0, .ref (kad k 1 0))]) hx rfl (Nat.le_of_ble_eq_true rfl) rfl dX1_clear_6 ?_
  refine r_sub [1, 0] rfl ?_
  exact L7 F 0 (si μ 1 0 0 0) e_this hf
theorem dX1_remember_0 : decode bX1_remember 0 = .ok (.aload_n 1, 1) := by decide +kernel
theorem dX1_remember_1 : decode bX1_remember 1 = .ok (.aload_n 0, 1) := by decide +kernel
theorem dX1_remember_2 : decode bX1_remember 2 = .ok (.getfield 13, 3) := by decide +kernel
theorem dX1_remember_5 : decode bX1_remember 5 = .ok (.aload_n 0, 1) := by decide +kernel
theorem dX1_remember_6 : decode bX1_remember 6 = .ok (.getfield 27, 3) := by decide +kernel
theorem dX1_remember_9 : decode bX1_remember 9 = .ok (.aaload, 1) := by decide +kernel
theorem dX1_remember_10 : decode bX1_remember 10 = .ok (.invokevirtual 30, 3) := by decide +kernel
theorem dX1_remember_13 : decode bX1_remember 13 = .ok (.aload_n 0, 1) := by decide +kernel
theorem dX1_remember_14 : decode bX1_remember 14 = .ok (.aload_n 0, 1) := by decide +kernel
theorem dX1_remember_15 : decode bX1_remember 15 = .ok (.getfield 27, 3) := by decide +kernel
theorem dX1_remember_18 : decode bX1_remember 18 = .ok (.iconst 1, 1) := by decide +kernel
theorem dX1_remember_19 : decode bX1_remember 19 = .ok (.iadd, 1) := by decide +kernel
theorem dX1_remember_20 : decode bX1_remember 20 = .ok (.bipush 40, 2) := by decide +kernel
theorem dX1_remember_22 : decode bX1_remember 22 = .ok (.irem, 1) := by decide +kernel
theorem dX1_remember_23 : decode bX1_remember 23 = .ok (.putfield 27, 3) := by decide +kernel
theorem dX1_remember_26 : decode bX1_remember 26 = .ok (.aload_n 0, 1) := by decide +kernel
theorem dX1_remember_27 : decode bX1_remember 27 = .ok (.bipush 40, 2) := by decide +kernel
theorem dX1_remember_29 : decode bX1_remember 29 = .ok (.aload_n 0, 1) := by decide +kernel
theorem dX1_remember_30 : decode bX1_remember 30 = .ok (.getfield 23, 3) := by decide +kernel
theorem dX1_remember_33 : decode bX1_remember 33 = .ok (.iconst 1, 1) := by decide +kernel
theorem dX1_remember_34 : decode bX1_remember 34 = .ok (.iadd, 1) := by decide +kernel
theorem dX1_remember_35 : decode bX1_remember 35 = .ok (.invokestatic 34, 3) := by decide +kernel
theorem dX1_remember_38 : decode bX1_remember 38 = .ok (.putfield 23, 3) := by decide +kernel
theorem dX1_remember_41 : decode bX1_remember 41 = .ok (.return_, 1) := by decide +kernel
set_option maxRecDepth 20000 in
set_option maxHeartbeats 4000000 in
theorem cX1_remember {l : Launch} {k : Kx} {F : Nat} {μ μ' : Mm} (hk : kok k) (e_this : kex k 1 0) (e_a1 : kex k 0 0) (hf : fX1_remember F μ = some μ') : MM l k 1 yX1_remember bX1_remember 2 none [.ref (kad k 1 0), .ref (kad k 0 0)] μ none μ' := by
  refine MM.of (lv := [(0, .ref (kad k 1 0)), (1, .ref (kad k 0 0))]) (plainFor_of_name (by decide)) hk (Nat.le_of_ble_eq_true rfl) rfl (fun z hl hx => ?_)
  subst hl
  have hx : Ok z k bX1_remember 2 "RopeDance$Memory" none 1 (0, 0) := hx
  unfold fX1_remember at hf
  refine r_aloadn hx 1 rfl rfl dX1_remember_0 ?_
  refine r_aloadn hx 0 rfl rfl dX1_remember_1 ?_
  refine r_getR hx (c' := 21) (i' := 0) FK1_2 e_this rfl wf_X1_13 dX1_remember_2 (fun e1 => ?_)
  refine r_aloadn hx 0 rfl rfl dX1_remember_5 ?_
  refine r_getI hx FK1_1 e_this wf_X1_27 dX1_remember_6 ?_
  obtain ⟨b2, hf⟩ := f_chk hf
  refine r_aald hx (c' := 92) (i' := ((gi μ 1 0 1).toNatClampNeg)) (by decide) (by decide) (by decide) e1 b2 rfl rfl dX1_remember_9 (fun e3 => ?_)
  obtain ⟨μ5, c4, hf⟩ := f_bd1 hf
  refine r_callV hx (As := [.ref (kad k 92 ((gi μ 1 0 1).toNatClampNeg))]) (rest := []) (st1 := []) (c := 0) (i := 0) (TT := T0) (N := 3) MK_X0_putInto rfl wi_X0_putInto we_X0_putInto wm_X1_30 ⟨Nat.le_refl _, Nat.le_refl _⟩ (cX0_putInto hk e_a1 e3 c4) e_a1 (Nat.le_of_ble_eq_true rfl) rfl rfl (Nat.le_of_ble_eq_true rfl) rfl dX1_remember_10 (fun hb6 => ?_)
  refine r_aloadn hx 0 rfl rfl dX1_remember_13 ?_
  refine r_aloadn hx 0 rfl rfl dX1_remember_14 ?_
  refine r_getI hx FK1_1 e_this wf_X1_27 dX1_remember_15 ?_
  refine r_iconst hx ci_1 dX1_remember_18 ?_
  refine r_iadd hx dX1_remember_19 ?_
  refine r_bipush hx cb_40 dX1_remember_20 ?_
  refine r_irem hx (by decide) dX1_remember_22 ?_
  refine r_putI (ty := .int) hx FK1_1 (fun T N h => by cases h; rfl) e_this wf_X1_27 (by decide +kernel) rfl rfl dX1_remember_23 ?_
  refine r_aloadn hx 0 rfl rfl dX1_remember_26 ?_
  refine r_bipush hx cb_40 dX1_remember_27 ?_
  refine r_aloadn hx 0 rfl rfl dX1_remember_29 ?_
  refine r_getI hx FK1_0 e_this wf_X1_23 dX1_remember_30 ?_
  refine r_iconst hx ci_1 dX1_remember_33 ?_
  refine r_iadd hx dX1_remember_34 ?_
  refine r_mmin hx wm_X1_34 xws_min xwm xwk_min ⟨Nat.le_refl _, Nat.le_refl _⟩ (Nat.le_of_ble_eq_true rfl) (Nat.le_of_ble_eq_true rfl) dX1_remember_35 ?_
  refine r_putI (ty := .int) hx FK1_0 (fun T N h => by cases h; rfl) e_this wf_X1_23 (by decide +kernel) rfl rfl dX1_remember_38 ?_
  exact r_vret hx hf dX1_remember_41
theorem dX1_takeBack_0 : decode bX1_takeBack 0 = .ok (.aload_n 0, 1) := by decide +kernel
theorem dX1_takeBack_1 : decode bX1_takeBack 1 = .ok (.getfield 23, 3) := by decide +kernel
theorem dX1_takeBack_4 : decode bX1_takeBack 4 = .ok (.ifCond .ne 5, 3) := by decide +kernel
theorem dX1_takeBack_7 : decode bX1_takeBack 7 = .ok (.iconst 0, 1) := by decide +kernel
theorem dX1_takeBack_8 : decode bX1_takeBack 8 = .ok (.ireturn, 1) := by decide +kernel
theorem dX1_takeBack_9 : decode bX1_takeBack 9 = .ok (.aload_n 0, 1) := by decide +kernel
theorem dX1_takeBack_10 : decode bX1_takeBack 10 = .ok (.aload_n 0, 1) := by decide +kernel
theorem dX1_takeBack_11 : decode bX1_takeBack 11 = .ok (.getfield 27, 3) := by decide +kernel
theorem dX1_takeBack_14 : decode bX1_takeBack 14 = .ok (.bipush 40, 2) := by decide +kernel
theorem dX1_takeBack_16 : decode bX1_takeBack 16 = .ok (.iadd, 1) := by decide +kernel
theorem dX1_takeBack_17 : decode bX1_takeBack 17 = .ok (.iconst 1, 1) := by decide +kernel
theorem dX1_takeBack_18 : decode bX1_takeBack 18 = .ok (.isub, 1) := by decide +kernel
theorem dX1_takeBack_19 : decode bX1_takeBack 19 = .ok (.bipush 40, 2) := by decide +kernel
theorem dX1_takeBack_21 : decode bX1_takeBack 21 = .ok (.irem, 1) := by decide +kernel
theorem dX1_takeBack_22 : decode bX1_takeBack 22 = .ok (.putfield 27, 3) := by decide +kernel
theorem dX1_takeBack_25 : decode bX1_takeBack 25 = .ok (.aload_n 0, 1) := by decide +kernel
theorem dX1_takeBack_26 : decode bX1_takeBack 26 = .ok (.dup, 1) := by decide +kernel
theorem dX1_takeBack_27 : decode bX1_takeBack 27 = .ok (.getfield 23, 3) := by decide +kernel
theorem dX1_takeBack_30 : decode bX1_takeBack 30 = .ok (.iconst 1, 1) := by decide +kernel
theorem dX1_takeBack_31 : decode bX1_takeBack 31 = .ok (.isub, 1) := by decide +kernel
theorem dX1_takeBack_32 : decode bX1_takeBack 32 = .ok (.putfield 23, 3) := by decide +kernel
theorem dX1_takeBack_35 : decode bX1_takeBack 35 = .ok (.aload_n 1, 1) := by decide +kernel
theorem dX1_takeBack_36 : decode bX1_takeBack 36 = .ok (.aload_n 0, 1) := by decide +kernel
theorem dX1_takeBack_37 : decode bX1_takeBack 37 = .ok (.getfield 13, 3) := by decide +kernel
theorem dX1_takeBack_40 : decode bX1_takeBack 40 = .ok (.aload_n 0, 1) := by decide +kernel
theorem dX1_takeBack_41 : decode bX1_takeBack 41 = .ok (.getfield 27, 3) := by decide +kernel
theorem dX1_takeBack_44 : decode bX1_takeBack 44 = .ok (.aaload, 1) := by decide +kernel
theorem dX1_takeBack_45 : decode bX1_takeBack 45 = .ok (.invokevirtual 40, 3) := by decide +kernel
theorem dX1_takeBack_48 : decode bX1_takeBack 48 = .ok (.iconst 1, 1) := by decide +kernel
theorem dX1_takeBack_49 : decode bX1_takeBack 49 = .ok (.ireturn, 1) := by decide +kernel
set_option maxRecDepth 20000 in
set_option maxHeartbeats 4000000 in
theorem cX1_takeBack {l : Launch} {k : Kx} {F : Nat} {μ μ' : Mm} {r : Int32} (hk : kok k) (e_this : kex k 1 0) (e_a1 : kex k 0 0) (hf : fX1_takeBack F μ = some (r, μ')) : MM l k 1 yX1_takeBack bX1_takeBack 2 (some .boolean) [.ref (kad k 1 0), .ref (kad k 0 0)] μ (some (.int r)) μ' := by
  refine MM.of (lv := [(0, .ref (kad k 1 0)), (1, .ref (kad k 0 0))]) (plainFor_of_name (by decide)) hk (Nat.le_of_ble_eq_true rfl) rfl (fun z hl hx => ?_)
  subst hl
  have hx : Ok z k bX1_takeBack 2 "RopeDance$Memory" (some .boolean) 1 (0, 0) := hx
  unfold fX1_takeBack at hf
  refine r_aloadn hx 0 rfl rfl dX1_takeBack_0 ?_
  refine r_getI hx FK1_0 e_this wf_X1_23 dX1_takeBack_1 ?_
  refine r_ifne (tgt := 9) hx rfl dX1_takeBack_4 (fun q1 => ?_) (fun q1 => ?_)
  · have hf := (f_ite hf).2 q1
    refine r_aloadn hx 0 rfl rfl dX1_takeBack_9 ?_
    refine r_aloadn hx 0 rfl rfl dX1_takeBack_10 ?_
    refine r_getI hx FK1_1 e_this wf_X1_27 dX1_takeBack_11 ?_
    refine r_bipush hx cb_40 dX1_takeBack_14 ?_
    refine r_iadd hx dX1_takeBack_16 ?_
    refine r_iconst hx ci_1 dX1_takeBack_17 ?_
    refine r_isub hx dX1_takeBack_18 ?_
    refine r_bipush hx cb_40 dX1_takeBack_19 ?_
    refine r_irem hx (by decide) dX1_takeBack_21 ?_
    refine r_putI (ty := .int) hx FK1_1 (fun T N h => by cases h; rfl) e_this wf_X1_27 (by decide +kernel) rfl rfl dX1_takeBack_22 ?_
    refine r_aloadn hx 0 rfl rfl dX1_takeBack_25 ?_
    refine r_dup hx rfl dX1_takeBack_26 ?_
    refine r_getI hx FK1_0 e_this wf_X1_23 dX1_takeBack_27 ?_
    refine r_iconst hx ci_1 dX1_takeBack_30 ?_
    refine r_isub hx dX1_takeBack_31 ?_
    refine r_putI (ty := .int) hx FK1_0 (fun T N h => by cases h; rfl) e_this wf_X1_23 (by decide +kernel) rfl rfl dX1_takeBack_32 ?_
    refine r_aloadn hx 1 rfl rfl dX1_takeBack_35 ?_
    refine r_aloadn hx 0 rfl rfl dX1_takeBack_36 ?_
    refine r_getR hx (c' := 21) (i' := 0) FK1_2 e_this rfl wf_X1_13 dX1_takeBack_37 (fun e2 => ?_)
    refine r_aloadn hx 0 rfl rfl dX1_takeBack_40 ?_
    refine r_getI hx FK1_1 e_this wf_X1_27 dX1_takeBack_41 ?_
    obtain ⟨b3, hf⟩ := f_chk hf
    refine r_aald hx (c' := 92) (i' := ((gi (si (si μ 1 0 1 (irm (((gi μ 1 0 1) + 40) - 1) 40)) 1 0 0 ((gi (si μ 1 0 1 (irm (((gi μ 1 0 1) + 40) - 1) 40)) 1 0 0) - 1)) 1 0 1).toNatClampNeg)) (by decide) (by decide) (by decide) e2 b3 rfl rfl dX1_takeBack_44 (fun e4 => ?_)
    obtain ⟨μ6, c5, hf⟩ := f_bd1 hf
    refine r_callV hx (As := [.ref (kad k 92 ((gi (si (si μ 1 0 1 (irm (((gi μ 1 0 1) + 40) - 1) 40)) 1 0 0 ((gi (si μ 1 0 1 (irm (((gi μ 1 0 1) + 40) - 1) 40)) 1 0 0) - 1)) 1 0 1).toNatClampNeg))]) (rest := []) (st1 := []) (c := 0) (i := 0) (TT := T0) (N := 3) MK_X0_takeFrom rfl wi_X0_takeFrom we_X0_takeFrom wm_X1_40 ⟨Nat.le_refl _, Nat.le_refl _⟩ (cX0_takeFrom hk e_a1 e4 c5) e_a1 (Nat.le_of_ble_eq_true rfl) rfl rfl (Nat.le_of_ble_eq_true rfl) rfl dX1_takeBack_45 (fun hb7 => ?_)
    refine r_iconst hx ci_1 dX1_takeBack_48 ?_
    exact r_zret hx hf rfl dX1_takeBack_49
  · have hf := (f_ite hf).1 q1
    refine r_iconst hx ci_0 dX1_takeBack_7 ?_
    exact r_zret hx hf rfl dX1_takeBack_8
theorem dX1_keep_0 : decode bX1_keep 0 = .ok (.iload_n 1, 1) := by decide +kernel
theorem dX1_keep_1 : decode bX1_keep 1 = .ok (.ifCond .lt 8, 3) := by decide +kernel
theorem dX1_keep_4 : decode bX1_keep 4 = .ok (.iload_n 1, 1) := by decide +kernel
theorem dX1_keep_5 : decode bX1_keep 5 = .ok (.iconst 3, 1) := by decide +kernel
theorem dX1_keep_6 : decode bX1_keep 6 = .ok (.if_icmp .lt 5, 3) := by decide +kernel
theorem dX1_keep_9 : decode bX1_keep 9 = .ok (.iconst 0, 1) := by decide +kernel
theorem dX1_keep_10 : decode bX1_keep 10 = .ok (.ireturn, 1) := by decide +kernel
theorem dX1_keep_11 : decode bX1_keep 11 = .ok (.aload_n 2, 1) := by decide +kernel
theorem dX1_keep_12 : decode bX1_keep 12 = .ok (.aload_n 0, 1) := by decide +kernel
theorem dX1_keep_13 : decode bX1_keep 13 = .ok (.getfield 16, 3) := by decide +kernel
theorem dX1_keep_16 : decode bX1_keep 16 = .ok (.iload_n 1, 1) := by decide +kernel
theorem dX1_keep_17 : decode bX1_keep 17 = .ok (.aaload, 1) := by decide +kernel
theorem dX1_keep_18 : decode bX1_keep 18 = .ok (.invokevirtual 30, 3) := by decide +kernel
theorem dX1_keep_21 : decode bX1_keep 21 = .ok (.aload_n 0, 1) := by decide +kernel
theorem dX1_keep_22 : decode bX1_keep 22 = .ok (.getfield 19, 3) := by decide +kernel
theorem dX1_keep_25 : decode bX1_keep 25 = .ok (.iload_n 1, 1) := by decide +kernel
theorem dX1_keep_26 : decode bX1_keep 26 = .ok (.iconst 1, 1) := by decide +kernel
theorem dX1_keep_27 : decode bX1_keep 27 = .ok (.bastore, 1) := by decide +kernel
theorem dX1_keep_28 : decode bX1_keep 28 = .ok (.iconst 1, 1) := by decide +kernel
theorem dX1_keep_29 : decode bX1_keep 29 = .ok (.ireturn, 1) := by decide +kernel
set_option maxRecDepth 20000 in
set_option maxHeartbeats 4000000 in
theorem cX1_keep {l : Launch} {k : Kx} {F : Nat} {a1 : Int32} {μ μ' : Mm} {r : Int32} (hk : kok k) (e_this : kex k 1 0) (e_a2 : kex k 0 0) (hf : fX1_keep F a1 μ = some (r, μ')) : MM l k 1 yX1_keep bX1_keep 3 (some .boolean) [.ref (kad k 1 0), .int a1, .ref (kad k 0 0)] μ (some (.int r)) μ' := by
  refine MM.of (lv := [(0, .ref (kad k 1 0)), (1, .int a1), (2, .ref (kad k 0 0))]) (plainFor_of_name (by decide)) hk (Nat.le_of_ble_eq_true rfl) rfl (fun z hl hx => ?_)
  subst hl
  have hx : Ok z k bX1_keep 3 "RopeDance$Memory" (some .boolean) 1 (0, 0) := hx
  unfold fX1_keep at hf
  refine r_iloadn hx 1 rfl rfl dX1_keep_0 ?_
  refine r_iflt (tgt := 9) hx rfl dX1_keep_1 (fun q1 => ?_) (fun q1 => ?_)
  · have hf := (f_ite hf).1 q1
    refine r_iconst hx ci_0 dX1_keep_9 ?_
    exact r_zret hx hf rfl dX1_keep_10
  · have hf := (f_ite hf).2 q1
    refine r_iloadn hx 1 rfl rfl dX1_keep_4 ?_
    refine r_iconst hx ci_3 dX1_keep_5 ?_
    refine r_iclt (tgt := 11) hx rfl dX1_keep_6 (fun q2 => ?_) (fun q2 => ?_)
    · have hf := (f_ite hf).1 q2
      refine r_aloadn hx 2 rfl rfl dX1_keep_11 ?_
      refine r_aloadn hx 0 rfl rfl dX1_keep_12 ?_
      refine r_getR hx (c' := 22) (i' := 0) FK1_3 e_this rfl wf_X1_16 dX1_keep_13 (fun e3 => ?_)
      refine r_iloadn hx 1 rfl rfl dX1_keep_16 ?_
      obtain ⟨b4, hf⟩ := f_chk hf
      refine r_aald hx (c' := 92) (i' := (40 + a1.toNatClampNeg)) (by decide) (by decide) (by decide) e3 b4 rfl rfl dX1_keep_17 (fun e5 => ?_)
      obtain ⟨μ7, c6, hf⟩ := f_bd1 hf
      refine r_callV hx (As := [.ref (kad k 92 (40 + a1.toNatClampNeg))]) (rest := []) (st1 := []) (c := 0) (i := 0) (TT := T0) (N := 3) MK_X0_putInto rfl wi_X0_putInto we_X0_putInto wm_X1_30 ⟨Nat.le_refl _, Nat.le_refl _⟩ (cX0_putInto hk e_a2 e5 c6) e_a2 (Nat.le_of_ble_eq_true rfl) rfl rfl (Nat.le_of_ble_eq_true rfl) rfl dX1_keep_18 (fun hb8 => ?_)
      refine r_aloadn hx 0 rfl rfl dX1_keep_21 ?_
      refine r_getR hx (c' := 23) (i' := 0) FK1_4 e_this rfl wf_X1_19 dX1_keep_22 (fun e9 => ?_)
      refine r_iloadn hx 1 rfl rfl dX1_keep_25 ?_
      refine r_iconst hx ci_1 dX1_keep_26 ?_
      refine r_zast hx (by decide) rfl e9 b4 rfl dX1_keep_27 ?_
      refine r_iconst hx ci_1 dX1_keep_28 ?_
      exact r_zret hx hf rfl dX1_keep_29
    · have hf := (f_ite hf).2 q2
      refine r_iconst hx ci_0 dX1_keep_9 ?_
      exact r_zret hx hf rfl dX1_keep_10
theorem dX1_goOn_0 : decode bX1_goOn 0 = .ok (.iload_n 1, 1) := by decide +kernel
theorem dX1_goOn_1 : decode bX1_goOn 1 = .ok (.ifCond .lt 17, 3) := by decide +kernel
theorem dX1_goOn_4 : decode bX1_goOn 4 = .ok (.iload_n 1, 1) := by decide +kernel
theorem dX1_goOn_5 : decode bX1_goOn 5 = .ok (.iconst 3, 1) := by decide +kernel
theorem dX1_goOn_6 : decode bX1_goOn 6 = .ok (.if_icmp .ge 12, 3) := by decide +kernel
theorem dX1_goOn_9 : decode bX1_goOn 9 = .ok (.aload_n 0, 1) := by decide +kernel
theorem dX1_goOn_10 : decode bX1_goOn 10 = .ok (.getfield 19, 3) := by decide +kernel
theorem dX1_goOn_13 : decode bX1_goOn 13 = .ok (.iload_n 1, 1) := by decide +kernel
theorem dX1_goOn_14 : decode bX1_goOn 14 = .ok (.baload, 1) := by decide +kernel
theorem dX1_goOn_15 : decode bX1_goOn 15 = .ok (.ifCond .ne 5, 3) := by decide +kernel
theorem dX1_goOn_18 : decode bX1_goOn 18 = .ok (.iconst 0, 1) := by decide +kernel
theorem dX1_goOn_19 : decode bX1_goOn 19 = .ok (.ireturn, 1) := by decide +kernel
theorem dX1_goOn_20 : decode bX1_goOn 20 = .ok (.aload_n 2, 1) := by decide +kernel
theorem dX1_goOn_21 : decode bX1_goOn 21 = .ok (.aload_n 0, 1) := by decide +kernel
theorem dX1_goOn_22 : decode bX1_goOn 22 = .ok (.getfield 16, 3) := by decide +kernel
theorem dX1_goOn_25 : decode bX1_goOn 25 = .ok (.iload_n 1, 1) := by decide +kernel
theorem dX1_goOn_26 : decode bX1_goOn 26 = .ok (.aaload, 1) := by decide +kernel
theorem dX1_goOn_27 : decode bX1_goOn 27 = .ok (.invokevirtual 40, 3) := by decide +kernel
theorem dX1_goOn_30 : decode bX1_goOn 30 = .ok (.aload_n 0, 1) := by decide +kernel
theorem dX1_goOn_31 : decode bX1_goOn 31 = .ok (.iconst 0, 1) := by decide +kernel
theorem dX1_goOn_32 : decode bX1_goOn 32 = .ok (.putfield 23, 3) := by decide +kernel
theorem dX1_goOn_35 : decode bX1_goOn 35 = .ok (.iconst 1, 1) := by decide +kernel
theorem dX1_goOn_36 : decode bX1_goOn 36 = .ok (.ireturn, 1) := by decide +kernel
set_option maxRecDepth 20000 in
set_option maxHeartbeats 4000000 in
theorem cX1_goOn {l : Launch} {k : Kx} {F : Nat} {a1 : Int32} {μ μ' : Mm} {r : Int32} (hk : kok k) (e_this : kex k 1 0) (e_a2 : kex k 0 0) (hf : fX1_goOn F a1 μ = some (r, μ')) : MM l k 1 yX1_goOn bX1_goOn 3 (some .boolean) [.ref (kad k 1 0), .int a1, .ref (kad k 0 0)] μ (some (.int r)) μ' := by
  refine MM.of (lv := [(0, .ref (kad k 1 0)), (1, .int a1), (2, .ref (kad k 0 0))]) (plainFor_of_name (by decide)) hk (Nat.le_of_ble_eq_true rfl) rfl (fun z hl hx => ?_)
  subst hl
  have hx : Ok z k bX1_goOn 3 "RopeDance$Memory" (some .boolean) 1 (0, 0) := hx
  unfold fX1_goOn at hf
  refine r_iloadn hx 1 rfl rfl dX1_goOn_0 ?_
  refine r_iflt (tgt := 18) hx rfl dX1_goOn_1 (fun q1 => ?_) (fun q1 => ?_)
  · have hf := (f_ite hf).1 q1
    refine r_iconst hx ci_0 dX1_goOn_18 ?_
    exact r_zret hx hf rfl dX1_goOn_19
  · have hf := (f_ite hf).2 q1
    refine r_iloadn hx 1 rfl rfl dX1_goOn_4 ?_
    refine r_iconst hx ci_3 dX1_goOn_5 ?_
    refine r_icge (tgt := 18) hx rfl dX1_goOn_6 (fun q2 => ?_) (fun q2 => ?_)
    · have hf := (f_ite hf).1 q2
      refine r_iconst hx ci_0 dX1_goOn_18 ?_
      exact r_zret hx hf rfl dX1_goOn_19
    · have hf := (f_ite hf).2 q2
      refine r_aloadn hx 0 rfl rfl dX1_goOn_9 ?_
      refine r_getR hx (c' := 23) (i' := 0) FK1_4 e_this rfl wf_X1_19 dX1_goOn_10 (fun e3 => ?_)
      refine r_iloadn hx 1 rfl rfl dX1_goOn_13 ?_
      obtain ⟨b4, hf⟩ := f_chk hf
      refine r_zald hx (by decide) rfl e3 b4 rfl dX1_goOn_14 ?_
      refine r_ifne (tgt := 20) hx rfl dX1_goOn_15 (fun q5 => ?_) (fun q5 => ?_)
      · have hf := (f_ite hf).2 q5
        refine r_aloadn hx 2 rfl rfl dX1_goOn_20 ?_
        refine r_aloadn hx 0 rfl rfl dX1_goOn_21 ?_
        refine r_getR hx (c' := 22) (i' := 0) FK1_3 e_this rfl wf_X1_16 dX1_goOn_22 (fun e6 => ?_)
        refine r_iloadn hx 1 rfl rfl dX1_goOn_25 ?_
        refine r_aald hx (c' := 92) (i' := (40 + a1.toNatClampNeg)) (by decide) (by decide) (by decide) e6 b4 rfl rfl dX1_goOn_26 (fun e7 => ?_)
        obtain ⟨μ9, c8, hf⟩ := f_bd1 hf
        refine r_callV hx (As := [.ref (kad k 92 (40 + a1.toNatClampNeg))]) (rest := []) (st1 := []) (c := 0) (i := 0) (TT := T0) (N := 3) MK_X0_takeFrom rfl wi_X0_takeFrom we_X0_takeFrom wm_X1_40 ⟨Nat.le_refl _, Nat.le_refl _⟩ (cX0_takeFrom hk e_a2 e7 c8) e_a2 (Nat.le_of_ble_eq_true rfl) rfl rfl (Nat.le_of_ble_eq_true rfl) rfl dX1_goOn_27 (fun hb10 => ?_)
        refine r_aloadn hx 0 rfl rfl dX1_goOn_30 ?_
        refine r_iconst hx ci_0 dX1_goOn_31 ?_
        refine r_putI (ty := .int) hx FK1_0 (fun T N h => by cases h; rfl) e_this wf_X1_23 (by decide +kernel) rfl rfl dX1_goOn_32 ?_
        refine r_iconst hx ci_1 dX1_goOn_35 ?_
        exact r_zret hx hf rfl dX1_goOn_36
      · have hf := (f_ite hf).1 q5
        refine r_iconst hx ci_0 dX1_goOn_18 ?_
        exact r_zret hx hf rfl dX1_goOn_19
theorem dX1_heldSlots_0 : decode bX1_heldSlots 0 = .ok (.iconst 0, 1) := by decide +kernel
theorem dX1_heldSlots_1 : decode bX1_heldSlots 1 = .ok (.istore_n 1, 1) := by decide +kernel
theorem dX1_heldSlots_2 : decode bX1_heldSlots 2 = .ok (.iconst 0, 1) := by decide +kernel
theorem dX1_heldSlots_3 : decode bX1_heldSlots 3 = .ok (.istore_n 2, 1) := by decide +kernel
theorem dX1_heldSlots_4 : decode bX1_heldSlots 4 = .ok (.iload_n 2, 1) := by decide +kernel
theorem dX1_heldSlots_5 : decode bX1_heldSlots 5 = .ok (.iconst 3, 1) := by decide +kernel
theorem dX1_heldSlots_6 : decode bX1_heldSlots 6 = .ok (.if_icmp .ge 21, 3) := by decide +kernel
theorem dX1_heldSlots_9 : decode bX1_heldSlots 9 = .ok (.aload_n 0, 1) := by decide +kernel
theorem dX1_heldSlots_10 : decode bX1_heldSlots 10 = .ok (.getfield 19, 3) := by decide +kernel
theorem dX1_heldSlots_13 : decode bX1_heldSlots 13 = .ok (.iload_n 2, 1) := by decide +kernel
theorem dX1_heldSlots_14 : decode bX1_heldSlots 14 = .ok (.baload, 1) := by decide +kernel
theorem dX1_heldSlots_15 : decode bX1_heldSlots 15 = .ok (.ifCond .eq 6, 3) := by decide +kernel
theorem dX1_heldSlots_18 : decode bX1_heldSlots 18 = .ok (.iinc 1 1, 3) := by decide +kernel
theorem dX1_heldSlots_21 : decode bX1_heldSlots 21 = .ok (.iinc 2 1, 3) := by decide +kernel
theorem dX1_heldSlots_24 : decode bX1_heldSlots 24 = .ok (.goto (-20), 3) := by decide +kernel
theorem dX1_heldSlots_27 : decode bX1_heldSlots 27 = .ok (.iload_n 1, 1) := by decide +kernel
theorem dX1_heldSlots_28 : decode bX1_heldSlots 28 = .ok (.ireturn, 1) := by decide +kernel
set_option maxRecDepth 20000 in
set_option maxHeartbeats 4000000 in
theorem cX1_heldSlots {l : Launch} {k : Kx} {F : Nat} {μ μ' : Mm} {r : Int32} (hk : kok k) (e_this : kex k 1 0) (hf : fX1_heldSlots F μ = some (r, μ')) : MM l k 0 yX1_heldSlots bX1_heldSlots 3 (some .int) [.ref (kad k 1 0)] μ (some (.int r)) μ' := by
  refine MM.of (lv := [(0, .ref (kad k 1 0))]) (plainFor_of_name (by decide)) hk (Nat.le_of_ble_eq_true rfl) rfl (fun z hl hx => ?_)
  subst hl
  have hx : Ok z k bX1_heldSlots 3 "RopeDance$Memory" (some .int) 0 (0, 0) := hx
  have L21 : ∀ (K4 : Int32 → Int32 → Mm → Option (Int32 × Mm)) (HK4 : ∀ (v1 : Int32) (v2 : Int32) (μ : Mm) (e_v0 : kex k 1 0), K4 v1 v2 μ = some (r, μ') → Gw z k 3 (k, (0, 0), (some .int), (some (.int r)), μ') (0, 0) 4 μ [(0, .ref (kad k 1 0)), (1, .int v1), (2, .int v2)] []) (v1 : Int32) (v2 : Int32) (μ : Mm) (e_v0 : kex k 1 0), fX1_heldSlots_L21 F K4 v1 v2 μ = some (r, μ') → Gw z k 3 (k, (0, 0), (some .int), (some (.int r)), μ') (0, 0) 21 μ [(0, .ref (kad k 1 0)), (1, .int v1), (2, .int v2)] [] := by
    intro K4 HK4 v1 v2 μ e_v0 hf
    unfold fX1_heldSlots_L21 at hf
    refine r_iinc (lv' := [(2, .int (v2 + 1)), (0, .ref (kad k 1 0)), (1, .int v1)]) hx 2 rfl (congrArg (fun y => v2 + y) ci_1) (Nat.le_of_ble_eq_true rfl) rfl dX1_heldSlots_21 ?_
    refine r_goto (tgt := 4) hx rfl dX1_heldSlots_24 ?_
    refine r_sub [1, 2, 0] rfl ?_
    exact HK4 v1 (v2 + 1) μ e_v0 hf
  have L4 : ∀ (n : Nat) (v1 : Int32) (v2 : Int32) (μ : Mm) (e_v0 : kex k 1 0), fX1_heldSlots_L4 F n v1 v2 μ = some (r, μ') → Gw z k 3 (k, (0, 0), (some .int), (some (.int r)), μ') (0, 0) 4 μ [(0, .ref (kad k 1 0)), (1, .int v1), (2, .int v2)] [] := by
    intro  n
    induction n with
    | zero =>
      intro v1 v2 μ e_v0 hf
      exact f_no (show (none : Option (Int32 × Mm)) = _ from hf)
    | succ n ih =>
      intro v1 v2 μ e_v0 hf
      rw [fX1_heldSlots_L4] at hf
      refine r_iloadn hx 2 rfl rfl dX1_heldSlots_4 ?_
      refine r_iconst hx ci_3 dX1_heldSlots_5 ?_
      refine r_icge (tgt := 27) hx rfl dX1_heldSlots_6 (fun q1 => ?_) (fun q1 => ?_)
      · have hf := (f_ite hf).1 q1
        refine r_iloadn hx 1 rfl rfl dX1_heldSlots_27 ?_
        exact r_iret hx hf dX1_heldSlots_28
      · have hf := (f_ite hf).2 q1
        refine r_aloadn hx 0 rfl rfl dX1_heldSlots_9 ?_
        refine r_getR hx (c' := 23) (i' := 0) FK1_4 e_v0 rfl wf_X1_19 dX1_heldSlots_10 (fun e2 => ?_)
        refine r_iloadn hx 2 rfl rfl dX1_heldSlots_13 ?_
        obtain ⟨b3, hf⟩ := f_chk hf
        refine r_zald hx (by decide) rfl e2 b3 rfl dX1_heldSlots_14 ?_
        refine r_ifeq (tgt := 21) hx rfl dX1_heldSlots_15 (fun q4 => ?_) (fun q4 => ?_)
        · have hf := (f_ite hf).1 q4
          refine r_sub [0, 1, 2] rfl ?_
          exact L21 _ ih  v1 v2 μ e_v0 hf
        · have hf := (f_ite hf).2 q4
          refine r_iinc (lv' := [(1, .int (v1 + 1)), (0, .ref (kad k 1 0)), (2, .int v2)]) hx 1 rfl (congrArg (fun y => v1 + y) ci_1) (Nat.le_of_ble_eq_true rfl) rfl dX1_heldSlots_18 ?_
          refine r_sub [1, 0, 2] rfl ?_
          exact L21 _ ih  (v1 + 1) v2 μ e_v0 hf
  unfold fX1_heldSlots at hf
  refine r_iconst hx ci_0 dX1_heldSlots_0 ?_
  refine r_istoren (lv' := [(1, .int 0), (0, .ref (kad k 1 0))]) hx rfl (Nat.le_of_ble_eq_true rfl) rfl dX1_heldSlots_1 ?_
  refine r_iconst hx ci_0 dX1_heldSlots_2 ?_
  refine r_istoren (lv' := [(2, .int 0), (1, .int 0), (0, .ref (kad k 1 0))]) hx rfl (Nat.le_of_ble_eq_true rfl) rfl dX1_heldSlots_3 ?_
  refine r_sub [2, 1, 0] rfl ?_
  exact L4 F 0 0 μ e_this hf
theorem dX8_beginLaw_0 : decode bX8_beginLaw 0 = .ok (.iload_n 1, 1) := by decide +kernel
theorem dX8_beginLaw_1 : decode bX8_beginLaw 1 = .ok (.ifCond .lt 22, 3) := by decide +kernel
theorem dX8_beginLaw_4 : decode bX8_beginLaw 4 = .ok (.iload_n 1, 1) := by decide +kernel
theorem dX8_beginLaw_5 : decode bX8_beginLaw 5 = .ok (.aload_n 0, 1) := by decide +kernel
theorem dX8_beginLaw_6 : decode bX8_beginLaw 6 = .ok (.getfield 32, 3) := by decide +kernel
theorem dX8_beginLaw_9 : decode bX8_beginLaw 9 = .ok (.arraylength, 1) := by decide +kernel
theorem dX8_beginLaw_10 : decode bX8_beginLaw 10 = .ok (.if_icmp .ge 13, 3) := by decide +kernel
theorem dX8_beginLaw_13 : decode bX8_beginLaw 13 = .ok (.aload_n 0, 1) := by decide +kernel
theorem dX8_beginLaw_14 : decode bX8_beginLaw 14 = .ok (.getfield 32, 3) := by decide +kernel
theorem dX8_beginLaw_17 : decode bX8_beginLaw 17 = .ok (.iload_n 1, 1) := by decide +kernel
theorem dX8_beginLaw_18 : decode bX8_beginLaw 18 = .ok (.aload_n 0, 1) := by decide +kernel
theorem dX8_beginLaw_19 : decode bX8_beginLaw 19 = .ok (.getfield 64, 3) := by decide +kernel
theorem dX8_beginLaw_22 : decode bX8_beginLaw 22 = .ok (.iastore, 1) := by decide +kernel
theorem dX8_beginLaw_23 : decode bX8_beginLaw 23 = .ok (.return_, 1) := by decide +kernel
set_option maxRecDepth 20000 in
set_option maxHeartbeats 4000000 in
theorem cX8_beginLaw {l : Launch} {k : Kx} {F : Nat} {this : Nat} {a1 : Int32} {μ μ' : Mm} (hk : kok k) (e_this : kex k 8 this) (hf : fX8_beginLaw F this a1 μ = some μ') : MM l k 0 yX8_beginLaw bX8_beginLaw 2 none [.ref (kad k 8 this), .int a1] μ none μ' := by
  refine MM.of (lv := [(0, .ref (kad k 8 this)), (1, .int a1)]) (plainFor_of_name (by decide)) hk (Nat.le_of_ble_eq_true rfl) rfl (fun z hl hx => ?_)
  subst hl
  have hx : Ok z k bX8_beginLaw 2 "RopeDance$Text" none 0 (0, 0) := hx
  unfold fX8_beginLaw at hf
  refine r_iloadn hx 1 rfl rfl dX8_beginLaw_0 ?_
  refine r_iflt (tgt := 23) hx rfl dX8_beginLaw_1 (fun q1 => ?_) (fun q1 => ?_)
  · have hf := (f_ite hf).1 q1
    exact r_vret hx hf dX8_beginLaw_23
  · have hf := (f_ite hf).2 q1
    refine r_iloadn hx 1 rfl rfl dX8_beginLaw_4 ?_
    refine r_aloadn hx 0 rfl rfl dX8_beginLaw_5 ?_
    refine r_getR hx (c' := 38) (i' := this) FK8_9 e_this rfl wf_X8_32 dX8_beginLaw_6 (fun e2 => ?_)
    refine r_alen (v := 4) hx (by decide) (by decide) e2 (by decide) dX8_beginLaw_9 ?_
    refine r_icge (tgt := 23) hx rfl dX8_beginLaw_10 (fun q3 => ?_) (fun q3 => ?_)
    · have hf := (f_ite hf).1 q3
      exact r_vret hx hf dX8_beginLaw_23
    · have hf := (f_ite hf).2 q3
      refine r_aloadn hx 0 rfl rfl dX8_beginLaw_13 ?_
      refine r_getR hx (c' := 38) (i' := this) FK8_9 e_this rfl wf_X8_32 dX8_beginLaw_14 (fun e4 => ?_)
      refine r_iloadn hx 1 rfl rfl dX8_beginLaw_17 ?_
      refine r_aloadn hx 0 rfl rfl dX8_beginLaw_18 ?_
      refine r_getI hx FK8_5 e_this wf_X8_64 dX8_beginLaw_19 ?_
      obtain ⟨b5, hf⟩ := f_chk hf
      refine r_iast hx (by decide) rfl e4 b5 rfl dX8_beginLaw_22 ?_
      exact r_vret hx hf dX8_beginLaw_23
theorem dX8_addCode_0 : decode bX8_addCode 0 = .ok (.aload_n 0, 1) := by decide +kernel
theorem dX8_addCode_1 : decode bX8_addCode 1 = .ok (.getfield 64, 3) := by decide +kernel
theorem dX8_addCode_4 : decode bX8_addCode 4 = .ok (.aload_n 0, 1) := by decide +kernel
theorem dX8_addCode_5 : decode bX8_addCode 5 = .ok (.getfield 25, 3) := by decide +kernel
theorem dX8_addCode_8 : decode bX8_addCode 8 = .ok (.arraylength, 1) := by decide +kernel
theorem dX8_addCode_9 : decode bX8_addCode 9 = .ok (.if_icmp .ge 23, 3) := by decide +kernel
theorem dX8_addCode_12 : decode bX8_addCode 12 = .ok (.aload_n 0, 1) := by decide +kernel
theorem dX8_addCode_13 : decode bX8_addCode 13 = .ok (.getfield 25, 3) := by decide +kernel
theorem dX8_addCode_16 : decode bX8_addCode 16 = .ok (.aload_n 0, 1) := by decide +kernel
theorem dX8_addCode_17 : decode bX8_addCode 17 = .ok (.getfield 64, 3) := by decide +kernel
theorem dX8_addCode_20 : decode bX8_addCode 20 = .ok (.iload_n 1, 1) := by decide +kernel
theorem dX8_addCode_21 : decode bX8_addCode 21 = .ok (.iastore, 1) := by decide +kernel
theorem dX8_addCode_22 : decode bX8_addCode 22 = .ok (.aload_n 0, 1) := by decide +kernel
theorem dX8_addCode_23 : decode bX8_addCode 23 = .ok (.dup, 1) := by decide +kernel
theorem dX8_addCode_24 : decode bX8_addCode 24 = .ok (.getfield 64, 3) := by decide +kernel
theorem dX8_addCode_27 : decode bX8_addCode 27 = .ok (.iconst 1, 1) := by decide +kernel
theorem dX8_addCode_28 : decode bX8_addCode 28 = .ok (.iadd, 1) := by decide +kernel
theorem dX8_addCode_29 : decode bX8_addCode 29 = .ok (.putfield 64, 3) := by decide +kernel
theorem dX8_addCode_32 : decode bX8_addCode 32 = .ok (.return_, 1) := by decide +kernel
set_option maxRecDepth 20000 in
set_option maxHeartbeats 4000000 in
theorem cX8_addCode {l : Launch} {k : Kx} {F : Nat} {this : Nat} {a1 : Int32} {μ μ' : Mm} (hk : kok k) (e_this : kex k 8 this) (hf : fX8_addCode F this a1 μ = some μ') : MM l k 0 yX8_addCode bX8_addCode 2 none [.ref (kad k 8 this), .int a1] μ none μ' := by
  refine MM.of (lv := [(0, .ref (kad k 8 this)), (1, .int a1)]) (plainFor_of_name (by decide)) hk (Nat.le_of_ble_eq_true rfl) rfl (fun z hl hx => ?_)
  subst hl
  have hx : Ok z k bX8_addCode 2 "RopeDance$Text" none 0 (0, 0) := hx
  unfold fX8_addCode at hf
  refine r_aloadn hx 0 rfl rfl dX8_addCode_0 ?_
  refine r_getI hx FK8_5 e_this wf_X8_64 dX8_addCode_1 ?_
  refine r_aloadn hx 0 rfl rfl dX8_addCode_4 ?_
  refine r_getR hx (c' := 37) (i' := this) FK8_8 e_this rfl wf_X8_25 dX8_addCode_5 (fun e1 => ?_)
  refine r_alen (v := 408) hx (by decide) (by decide) e1 (by decide) dX8_addCode_8 ?_
  refine r_icge (tgt := 32) hx rfl dX8_addCode_9 (fun q2 => ?_) (fun q2 => ?_)
  · have hf := (f_ite hf).1 q2
    exact r_vret hx hf dX8_addCode_32
  · have hf := (f_ite hf).2 q2
    refine r_aloadn hx 0 rfl rfl dX8_addCode_12 ?_
    refine r_getR hx (c' := 37) (i' := this) FK8_8 e_this rfl wf_X8_25 dX8_addCode_13 (fun e3 => ?_)
    refine r_aloadn hx 0 rfl rfl dX8_addCode_16 ?_
    refine r_getI hx FK8_5 e_this wf_X8_64 dX8_addCode_17 ?_
    refine r_iloadn hx 1 rfl rfl dX8_addCode_20 ?_
    obtain ⟨b4, hf⟩ := f_chk hf
    refine r_iast hx (by decide) rfl e3 b4 rfl dX8_addCode_21 ?_
    refine r_aloadn hx 0 rfl rfl dX8_addCode_22 ?_
    refine r_dup hx rfl dX8_addCode_23 ?_
    refine r_getI hx FK8_5 e_this wf_X8_64 dX8_addCode_24 ?_
    refine r_iconst hx ci_1 dX8_addCode_27 ?_
    refine r_iadd hx dX8_addCode_28 ?_
    refine r_putI (ty := .int) hx FK8_5 (fun T N h => by cases h; rfl) e_this wf_X8_64 (by decide +kernel) rfl rfl dX8_addCode_29 ?_
    exact r_vret hx hf dX8_addCode_32
theorem dX8_addShortLaw_0 : decode bX8_addShortLaw 0 = .ok (.aload_n 0, 1) := by decide +kernel
theorem dX8_addShortLaw_1 : decode bX8_addShortLaw 1 = .ok (.iload_n 1, 1) := by decide +kernel
theorem dX8_addShortLaw_2 : decode bX8_addShortLaw 2 = .ok (.invokevirtual 71, 3) := by decide +kernel
theorem dX8_addShortLaw_5 : decode bX8_addShortLaw 5 = .ok (.aload_n 0, 1) := by decide +kernel
theorem dX8_addShortLaw_6 : decode bX8_addShortLaw 6 = .ok (.iload_n 2, 1) := by decide +kernel
theorem dX8_addShortLaw_7 : decode bX8_addShortLaw 7 = .ok (.invokevirtual 75, 3) := by decide +kernel
theorem dX8_addShortLaw_10 : decode bX8_addShortLaw 10 = .ok (.aload_n 0, 1) := by decide +kernel
theorem dX8_addShortLaw_11 : decode bX8_addShortLaw 11 = .ok (.bipush (-15), 2) := by decide +kernel
theorem dX8_addShortLaw_13 : decode bX8_addShortLaw 13 = .ok (.invokevirtual 75, 3) := by decide +kernel
theorem dX8_addShortLaw_16 : decode bX8_addShortLaw 16 = .ok (.return_, 1) := by decide +kernel
set_option maxRecDepth 20000 in
set_option maxHeartbeats 4000000 in
theorem cX8_addShortLaw {l : Launch} {k : Kx} {F : Nat} {this : Nat} {a1 : Int32} {a2 : Int32} {μ μ' : Mm} (hk : kok k) (e_this : kex k 8 this) (hf : fX8_addShortLaw F this a1 a2 μ = some μ') : MM l k 1 yX8_addShortLaw bX8_addShortLaw 3 none [.ref (kad k 8 this), .int a1, .int a2] μ none μ' := by
  refine MM.of (lv := [(0, .ref (kad k 8 this)), (1, .int a1), (2, .int a2)]) (plainFor_of_name (by decide)) hk (Nat.le_of_ble_eq_true rfl) rfl (fun z hl hx => ?_)
  subst hl
  have hx : Ok z k bX8_addShortLaw 3 "RopeDance$Text" none 1 (0, 0) := hx
  unfold fX8_addShortLaw at hf
  refine r_aloadn hx 0 rfl rfl dX8_addShortLaw_0 ?_
  refine r_iloadn hx 1 rfl rfl dX8_addShortLaw_1 ?_
  obtain ⟨μ2, c1, hf⟩ := f_bd1 hf
  refine r_callV hx (As := [.int a1]) (rest := []) (st1 := []) (c := 8) (i := this) (TT := T8) (N := 13) MK_X8_beginLaw rfl wi_X8_beginLaw we_X8_beginLaw wm_X8_71 ⟨Nat.le_refl _, Nat.le_refl _⟩ (cX8_beginLaw hk e_this c1) e_this (Nat.le_of_ble_eq_true rfl) rfl rfl (Nat.le_of_ble_eq_true rfl) rfl dX8_addShortLaw_2 (fun hb3 => ?_)
  refine r_aloadn hx 0 rfl rfl dX8_addShortLaw_5 ?_
  refine r_iloadn hx 2 rfl rfl dX8_addShortLaw_6 ?_
  obtain ⟨μ5, c4, hf⟩ := f_bd1 hf
  refine r_callV hx (As := [.int a2]) (rest := []) (st1 := []) (c := 8) (i := this) (TT := T8) (N := 13) MK_X8_addCode rfl wi_X8_addCode we_X8_addCode wm_X8_75 ⟨Nat.le_refl _, Nat.le_refl _⟩ (cX8_addCode hk e_this c4) e_this (Nat.le_of_ble_eq_true rfl) rfl rfl (Nat.le_of_ble_eq_true rfl) rfl dX8_addShortLaw_7 (fun hb6 => ?_)
  refine r_aloadn hx 0 rfl rfl dX8_addShortLaw_10 ?_
  refine r_bipush hx cb_m15 dX8_addShortLaw_11 ?_
  obtain ⟨μ8, c7, hf⟩ := f_bd1 hf
  refine r_callV hx (As := [.int (-15)]) (rest := []) (st1 := []) (c := 8) (i := this) (TT := T8) (N := 13) MK_X8_addCode rfl wi_X8_addCode we_X8_addCode wm_X8_75 ⟨Nat.le_refl _, Nat.le_refl _⟩ (cX8_addCode hk e_this c7) e_this (Nat.le_of_ble_eq_true rfl) rfl rfl (Nat.le_of_ble_eq_true rfl) rfl dX8_addShortLaw_13 (fun hb9 => ?_)
  exact r_vret hx hf dX8_addShortLaw_16
theorem dX8_clear_0 : decode bX8_clear 0 = .ok (.aload_n 0, 1) := by decide +kernel
theorem dX8_clear_1 : decode bX8_clear 1 = .ok (.iconst 0, 1) := by decide +kernel
theorem dX8_clear_2 : decode bX8_clear 2 = .ok (.putfield 51, 3) := by decide +kernel
theorem dX8_clear_5 : decode bX8_clear 5 = .ok (.aload_n 0, 1) := by decide +kernel
theorem dX8_clear_6 : decode bX8_clear 6 = .ok (.iconst 0, 1) := by decide +kernel
theorem dX8_clear_7 : decode bX8_clear 7 = .ok (.putfield 55, 3) := by decide +kernel
theorem dX8_clear_10 : decode bX8_clear 10 = .ok (.aload_n 0, 1) := by decide +kernel
theorem dX8_clear_11 : decode bX8_clear 11 = .ok (.iconst 0, 1) := by decide +kernel
theorem dX8_clear_12 : decode bX8_clear 12 = .ok (.putfield 58, 3) := by decide +kernel
theorem dX8_clear_15 : decode bX8_clear 15 = .ok (.aload_n 0, 1) := by decide +kernel
theorem dX8_clear_16 : decode bX8_clear 16 = .ok (.iconst 0, 1) := by decide +kernel
theorem dX8_clear_17 : decode bX8_clear 17 = .ok (.putfield 61, 3) := by decide +kernel
theorem dX8_clear_20 : decode bX8_clear 20 = .ok (.aload_n 0, 1) := by decide +kernel
theorem dX8_clear_21 : decode bX8_clear 21 = .ok (.iconst 0, 1) := by decide +kernel
theorem dX8_clear_22 : decode bX8_clear 22 = .ok (.putfield 64, 3) := by decide +kernel
theorem dX8_clear_25 : decode bX8_clear 25 = .ok (.aload_n 0, 1) := by decide +kernel
theorem dX8_clear_26 : decode bX8_clear 26 = .ok (.iconst 0, 1) := by decide +kernel
theorem dX8_clear_27 : decode bX8_clear 27 = .ok (.bipush (-8), 2) := by decide +kernel
theorem dX8_clear_29 : decode bX8_clear 29 = .ok (.invokevirtual 67, 3) := by decide +kernel
theorem dX8_clear_32 : decode bX8_clear 32 = .ok (.aload_n 0, 1) := by decide +kernel
theorem dX8_clear_33 : decode bX8_clear 33 = .ok (.iconst 1, 1) := by decide +kernel
theorem dX8_clear_34 : decode bX8_clear 34 = .ok (.iconst 1, 1) := by decide +kernel
theorem dX8_clear_35 : decode bX8_clear 35 = .ok (.invokevirtual 67, 3) := by decide +kernel
theorem dX8_clear_38 : decode bX8_clear 38 = .ok (.aload_n 0, 1) := by decide +kernel
theorem dX8_clear_39 : decode bX8_clear 39 = .ok (.iconst 2, 1) := by decide +kernel
theorem dX8_clear_40 : decode bX8_clear 40 = .ok (.bipush (-3), 2) := by decide +kernel
theorem dX8_clear_42 : decode bX8_clear 42 = .ok (.invokevirtual 67, 3) := by decide +kernel
theorem dX8_clear_45 : decode bX8_clear 45 = .ok (.aload_n 0, 1) := by decide +kernel
theorem dX8_clear_46 : decode bX8_clear 46 = .ok (.iconst 3, 1) := by decide +kernel
theorem dX8_clear_47 : decode bX8_clear 47 = .ok (.iconst 0, 1) := by decide +kernel
theorem dX8_clear_48 : decode bX8_clear 48 = .ok (.invokevirtual 67, 3) := by decide +kernel
theorem dX8_clear_51 : decode bX8_clear 51 = .ok (.return_, 1) := by decide +kernel
set_option maxRecDepth 20000 in
set_option maxHeartbeats 4000000 in
theorem cX8_clear {l : Launch} {k : Kx} {F : Nat} {this : Nat} {μ μ' : Mm} (hk : kok k) (e_this : kex k 8 this) (hf : fX8_clear F this μ = some μ') : MM l k 2 yX8_clear bX8_clear 1 none [.ref (kad k 8 this)] μ none μ' := by
  refine MM.of (lv := [(0, .ref (kad k 8 this))]) (plainFor_of_name (by decide)) hk (Nat.le_of_ble_eq_true rfl) rfl (fun z hl hx => ?_)
  subst hl
  have hx : Ok z k bX8_clear 1 "RopeDance$Text" none 2 (0, 0) := hx
  unfold fX8_clear at hf
  refine r_aloadn hx 0 rfl rfl dX8_clear_0 ?_
  refine r_iconst hx ci_0 dX8_clear_1 ?_
  refine r_putI (ty := .int) hx FK8_0 (fun T N h => by cases h; rfl) e_this wf_X8_51 (by decide +kernel) rfl rfl dX8_clear_2 ?_
  refine r_aloadn hx 0 rfl rfl dX8_clear_5 ?_
  refine r_iconst hx ci_0 dX8_clear_6 ?_
  refine r_putI (ty := .int) hx FK8_1 (fun T N h => by cases h; rfl) e_this wf_X8_55 (by decide +kernel) rfl rfl dX8_clear_7 ?_
  refine r_aloadn hx 0 rfl rfl dX8_clear_10 ?_
  refine r_iconst hx ci_0 dX8_clear_11 ?_
  refine r_putI (ty := .int) hx FK8_2 (fun T N h => by cases h; rfl) e_this wf_X8_58 (by decide +kernel) rfl rfl dX8_clear_12 ?_
  refine r_aloadn hx 0 rfl rfl dX8_clear_15 ?_
  refine r_iconst hx ci_0 dX8_clear_16 ?_
  refine r_putI (ty := .int) hx FK8_7 (fun T N h => by cases h; rfl) e_this wf_X8_61 (by decide +kernel) rfl rfl dX8_clear_17 ?_
  refine r_aloadn hx 0 rfl rfl dX8_clear_20 ?_
  refine r_iconst hx ci_0 dX8_clear_21 ?_
  refine r_putI (ty := .int) hx FK8_5 (fun T N h => by cases h; rfl) e_this wf_X8_64 (by decide +kernel) rfl rfl dX8_clear_22 ?_
  refine r_aloadn hx 0 rfl rfl dX8_clear_25 ?_
  refine r_iconst hx ci_0 dX8_clear_26 ?_
  refine r_bipush hx cb_m8 dX8_clear_27 ?_
  obtain ⟨μ2, c1, hf⟩ := f_bd1 hf
  refine r_callV hx (As := [.int 0, .int (-8)]) (rest := []) (st1 := []) (c := 8) (i := this) (TT := T8) (N := 13) MK_X8_addShortLaw rfl wi_X8_addShortLaw we_X8_addShortLaw wm_X8_67 ⟨Nat.le_refl _, Nat.le_refl _⟩ (cX8_addShortLaw hk e_this c1) e_this (Nat.le_of_ble_eq_true rfl) rfl rfl (Nat.le_of_ble_eq_true rfl) rfl dX8_clear_29 (fun hb3 => ?_)
  refine r_aloadn hx 0 rfl rfl dX8_clear_32 ?_
  refine r_iconst hx ci_1 dX8_clear_33 ?_
  refine r_iconst hx ci_1 dX8_clear_34 ?_
  obtain ⟨μ5, c4, hf⟩ := f_bd1 hf
  refine r_callV hx (As := [.int 1, .int 1]) (rest := []) (st1 := []) (c := 8) (i := this) (TT := T8) (N := 13) MK_X8_addShortLaw rfl wi_X8_addShortLaw we_X8_addShortLaw wm_X8_67 ⟨Nat.le_refl _, Nat.le_refl _⟩ (cX8_addShortLaw hk e_this c4) e_this (Nat.le_of_ble_eq_true rfl) rfl rfl (Nat.le_of_ble_eq_true rfl) rfl dX8_clear_35 (fun hb6 => ?_)
  refine r_aloadn hx 0 rfl rfl dX8_clear_38 ?_
  refine r_iconst hx ci_2 dX8_clear_39 ?_
  refine r_bipush hx cb_m3 dX8_clear_40 ?_
  obtain ⟨μ8, c7, hf⟩ := f_bd1 hf
  refine r_callV hx (As := [.int 2, .int (-3)]) (rest := []) (st1 := []) (c := 8) (i := this) (TT := T8) (N := 13) MK_X8_addShortLaw rfl wi_X8_addShortLaw we_X8_addShortLaw wm_X8_67 ⟨Nat.le_refl _, Nat.le_refl _⟩ (cX8_addShortLaw hk e_this c7) e_this (Nat.le_of_ble_eq_true rfl) rfl rfl (Nat.le_of_ble_eq_true rfl) rfl dX8_clear_42 (fun hb9 => ?_)
  refine r_aloadn hx 0 rfl rfl dX8_clear_45 ?_
  refine r_iconst hx ci_3 dX8_clear_46 ?_
  refine r_iconst hx ci_0 dX8_clear_47 ?_
  obtain ⟨μ11, c10, hf⟩ := f_bd1 hf
  refine r_callV hx (As := [.int 3, .int 0]) (rest := []) (st1 := []) (c := 8) (i := this) (TT := T8) (N := 13) MK_X8_addShortLaw rfl wi_X8_addShortLaw we_X8_addShortLaw wm_X8_67 ⟨Nat.le_refl _, Nat.le_refl _⟩ (cX8_addShortLaw hk e_this c10) e_this (Nat.le_of_ble_eq_true rfl) rfl rfl (Nat.le_of_ble_eq_true rfl) rfl dX8_clear_48 (fun hb12 => ?_)
  exact r_vret hx hf dX8_clear_51
theorem dX6_clear_0 : decode bX6_clear 0 = .ok (.aload_n 0, 1) := by decide +kernel
theorem dX6_clear_1 : decode bX6_clear 1 = .ok (.iconst 1, 1) := by decide +kernel
theorem dX6_clear_2 : decode bX6_clear 2 = .ok (.putfield 7, 3) := by decide +kernel
theorem dX6_clear_5 : decode bX6_clear 5 = .ok (.aload_n 0, 1) := by decide +kernel
theorem dX6_clear_6 : decode bX6_clear 6 = .ok (.iconst 0, 1) := by decide +kernel
theorem dX6_clear_7 : decode bX6_clear 7 = .ok (.putfield 16, 3) := by decide +kernel
theorem dX6_clear_10 : decode bX6_clear 10 = .ok (.aload_n 0, 1) := by decide +kernel
theorem dX6_clear_11 : decode bX6_clear 11 = .ok (.iconst 0, 1) := by decide +kernel
theorem dX6_clear_12 : decode bX6_clear 12 = .ok (.putfield 19, 3) := by decide +kernel
theorem dX6_clear_15 : decode bX6_clear 15 = .ok (.aload_n 0, 1) := by decide +kernel
theorem dX6_clear_16 : decode bX6_clear 16 = .ok (.iconst 1, 1) := by decide +kernel
theorem dX6_clear_17 : decode bX6_clear 17 = .ok (.putfield 13, 3) := by decide +kernel
theorem dX6_clear_20 : decode bX6_clear 20 = .ok (.return_, 1) := by decide +kernel
set_option maxRecDepth 20000 in
set_option maxHeartbeats 4000000 in
theorem cX6_clear {l : Launch} {k : Kx} {F : Nat} {this : Nat} {μ μ' : Mm} (hk : kok k) (e_this : kex k 6 this) (hf : fX6_clear F this μ = some μ') : MM l k 0 yX6_clear bX6_clear 1 none [.ref (kad k 6 this)] μ none μ' := by
  refine MM.of (lv := [(0, .ref (kad k 6 this))]) (plainFor_of_name (by decide)) hk (Nat.le_of_ble_eq_true rfl) rfl (fun z hl hx => ?_)
  subst hl
  have hx : Ok z k bX6_clear 1 "RopeDance$Table" none 0 (0, 0) := hx
  unfold fX6_clear at hf
  refine r_aloadn hx 0 rfl rfl dX6_clear_0 ?_
  refine r_iconst hx ci_1 dX6_clear_1 ?_
  refine r_putI (ty := .int) hx FK6_0 (fun T N h => by cases h; rfl) e_this wf_X6_7 (by decide +kernel) rfl rfl dX6_clear_2 ?_
  refine r_aloadn hx 0 rfl rfl dX6_clear_5 ?_
  refine r_iconst hx ci_0 dX6_clear_6 ?_
  refine r_putI (ty := .int) hx FK6_1 (fun T N h => by cases h; rfl) e_this wf_X6_16 (by decide +kernel) rfl rfl dX6_clear_7 ?_
  refine r_aloadn hx 0 rfl rfl dX6_clear_10 ?_
  refine r_iconst hx ci_0 dX6_clear_11 ?_
  refine r_putI (ty := .int) hx FK6_2 (fun T N h => by cases h; rfl) e_this wf_X6_19 (by decide +kernel) rfl rfl dX6_clear_12 ?_
  refine r_aloadn hx 0 rfl rfl dX6_clear_15 ?_
  refine r_iconst hx ci_1 dX6_clear_16 ?_
  refine r_putI (ty := .int) hx FK6_3 (fun T N h => by cases h; rfl) e_this wf_X6_13 (by decide +kernel) rfl rfl dX6_clear_17 ?_
  exact r_vret hx hf dX6_clear_20
theorem dX3_clear_0 : decode bX3_clear 0 = .ok (.aload_n 0, 1) := by decide +kernel
theorem dX3_clear_1 : decode bX3_clear 1 = .ok (.iconst 0, 1) := by decide +kernel
theorem dX3_clear_2 : decode bX3_clear 2 = .ok (.putfield 23, 3) := by decide +kernel
theorem dX3_clear_5 : decode bX3_clear 5 = .ok (.aload_n 0, 1) := by decide +kernel
theorem dX3_clear_6 : decode bX3_clear 6 = .ok (.getfield 10, 3) := by decide +kernel
theorem dX3_clear_9 : decode bX3_clear 9 = .ok (.invokevirtual 27, 3) := by decide +kernel
theorem dX3_clear_12 : decode bX3_clear 12 = .ok (.return_, 1) := by decide +kernel
set_option maxRecDepth 20000 in
set_option maxHeartbeats 4000000 in
theorem cX3_clear {l : Launch} {k : Kx} {F : Nat} {this : Nat} {μ μ' : Mm} (hk : kok k) (e_this : kex k 3 this) (hf : fX3_clear F this μ = some μ') : MM l k 1 yX3_clear bX3_clear 1 none [.ref (kad k 3 this)] μ none μ' := by
  refine MM.of (lv := [(0, .ref (kad k 3 this))]) (plainFor_of_name (by decide)) hk (Nat.le_of_ble_eq_true rfl) rfl (fun z hl hx => ?_)
  subst hl
  have hx : Ok z k bX3_clear 1 "RopeDance$Row" none 1 (0, 0) := hx
  unfold fX3_clear at hf
  refine r_aloadn hx 0 rfl rfl dX3_clear_0 ?_
  refine r_iconst hx ci_0 dX3_clear_1 ?_
  refine r_putI (ty := .int) hx FK3_0 (fun T N h => by cases h; rfl) e_this wf_X3_23 (by decide +kernel) rfl rfl dX3_clear_2 ?_
  refine r_aloadn hx 0 rfl rfl dX3_clear_5 ?_
  refine r_getR hx (c' := 6) (i' := this) FK3_1 e_this rfl wf_X3_10 dX3_clear_6 (fun e1 => ?_)
  obtain ⟨μ3, c2, hf⟩ := f_bd1 hf
  refine r_callV hx (As := []) (rest := []) (st1 := []) (c := 6) (i := this) (TT := T6) (N := 4) MK_X6_clear rfl wi_X6_clear we_X6_clear wm_X3_27 ⟨Nat.le_refl _, Nat.le_refl _⟩ (cX6_clear hk e1 c2) e1 (Nat.le_of_ble_eq_true rfl) rfl rfl (Nat.le_of_ble_eq_true rfl) rfl dX3_clear_9 (fun hb4 => ?_)
  exact r_vret hx hf dX3_clear_12
theorem dX8_nextSquare_0 : decode bX8_nextSquare 0 = .ok (.aload_n 0, 1) := by decide +kernel
theorem dX8_nextSquare_1 : decode bX8_nextSquare 1 = .ok (.getfield 51, 3) := by decide +kernel
theorem dX8_nextSquare_4 : decode bX8_nextSquare 4 = .ok (.iconst 4, 1) := by decide +kernel
theorem dX8_nextSquare_5 : decode bX8_nextSquare 5 = .ok (.if_icmp .lt 5, 3) := by decide +kernel
theorem dX8_nextSquare_8 : decode bX8_nextSquare 8 = .ok (.aconst_null, 1) := by decide +kernel
theorem dX8_nextSquare_9 : decode bX8_nextSquare 9 = .ok (.areturn, 1) := by decide +kernel
theorem dX8_nextSquare_10 : decode bX8_nextSquare 10 = .ok (.aload_n 0, 1) := by decide +kernel
theorem dX8_nextSquare_11 : decode bX8_nextSquare 11 = .ok (.getfield 11, 3) := by decide +kernel
theorem dX8_nextSquare_14 : decode bX8_nextSquare 14 = .ok (.aload_n 0, 1) := by decide +kernel
theorem dX8_nextSquare_15 : decode bX8_nextSquare 15 = .ok (.getfield 51, 3) := by decide +kernel
theorem dX8_nextSquare_18 : decode bX8_nextSquare 18 = .ok (.aaload, 1) := by decide +kernel
theorem dX8_nextSquare_19 : decode bX8_nextSquare 19 = .ok (.astore_n 1, 1) := by decide +kernel
theorem dX8_nextSquare_20 : decode bX8_nextSquare 20 = .ok (.aload_n 1, 1) := by decide +kernel
theorem dX8_nextSquare_21 : decode bX8_nextSquare 21 = .ok (.invokevirtual 78, 3) := by decide +kernel
theorem dX8_nextSquare_24 : decode bX8_nextSquare 24 = .ok (.aload_n 0, 1) := by decide +kernel
theorem dX8_nextSquare_25 : decode bX8_nextSquare 25 = .ok (.dup, 1) := by decide +kernel
theorem dX8_nextSquare_26 : decode bX8_nextSquare 26 = .ok (.getfield 51, 3) := by decide +kernel
theorem dX8_nextSquare_29 : decode bX8_nextSquare 29 = .ok (.iconst 1, 1) := by decide +kernel
theorem dX8_nextSquare_30 : decode bX8_nextSquare 30 = .ok (.iadd, 1) := by decide +kernel
theorem dX8_nextSquare_31 : decode bX8_nextSquare 31 = .ok (.putfield 51, 3) := by decide +kernel
theorem dX8_nextSquare_34 : decode bX8_nextSquare 34 = .ok (.aload_n 1, 1) := by decide +kernel
theorem dX8_nextSquare_35 : decode bX8_nextSquare 35 = .ok (.areturn, 1) := by decide +kernel
set_option maxRecDepth 20000 in
set_option maxHeartbeats 4000000 in
theorem cX8_nextSquare {l : Launch} {k : Kx} {F : Nat} {this : Nat} {μ μ' : Mm} {r : Option Nat} (hk : kok k) (e_this : kex k 8 this) (hf : fX8_nextSquare F this μ = some (r, μ')) : MM l k 2 yX8_nextSquare bX8_nextSquare 2 (some (.object "RopeDance$Row")) [.ref (kad k 8 this)] μ (some (rp k 3 r)) μ' := by
  refine MM.of (lv := [(0, .ref (kad k 8 this))]) (plainFor_of_name (by decide)) hk (Nat.le_of_ble_eq_true rfl) rfl (fun z hl hx => ?_)
  subst hl
  have hx : Ok z k bX8_nextSquare 2 "RopeDance$Text" (some (.object "RopeDance$Row")) 2 (0, 0) := hx
  unfold fX8_nextSquare at hf
  refine r_aloadn hx 0 rfl rfl dX8_nextSquare_0 ?_
  refine r_getI hx FK8_0 e_this wf_X8_51 dX8_nextSquare_1 ?_
  refine r_iconst hx ci_4 dX8_nextSquare_4 ?_
  refine r_iclt (tgt := 10) hx rfl dX8_nextSquare_5 (fun q1 => ?_) (fun q1 => ?_)
  · have hf := (f_ite hf).1 q1
    refine r_aloadn hx 0 rfl rfl dX8_nextSquare_10 ?_
    refine r_getR hx (c' := 34) (i' := this) FK8_3 e_this rfl wf_X8_11 dX8_nextSquare_11 (fun e2 => ?_)
    refine r_aloadn hx 0 rfl rfl dX8_nextSquare_14 ?_
    refine r_getI hx FK8_0 e_this wf_X8_51 dX8_nextSquare_15 ?_
    obtain ⟨b3, hf⟩ := f_chk hf
    refine r_aald hx (c' := 3) (i' := (9 * this + (gi μ 8 this 0).toNatClampNeg)) (by decide) (by decide) (by decide) e2 b3 rfl rfl dX8_nextSquare_18 (fun e4 => ?_)
    refine r_astoren (lv' := [(1, .ref (kad k 3 (9 * this + (gi μ 8 this 0).toNatClampNeg))), (0, .ref (kad k 8 this))]) hx rfl (Nat.le_of_ble_eq_true rfl) rfl dX8_nextSquare_19 ?_
    refine r_aloadn hx 0 rfl rfl dX8_nextSquare_20 ?_
    obtain ⟨μ6, c5, hf⟩ := f_bd1 hf
    refine r_callV hx (As := []) (rest := []) (st1 := []) (c := 3) (i := (9 * this + (gi μ 8 this 0).toNatClampNeg)) (TT := T3) (N := 4) MK_X3_clear rfl wi_X3_clear we_X3_clear wm_X8_78 ⟨Nat.le_refl _, Nat.le_refl _⟩ (cX3_clear hk e4 c5) e4 (Nat.le_of_ble_eq_true rfl) rfl rfl (Nat.le_of_ble_eq_true rfl) rfl dX8_nextSquare_21 (fun hb7 => ?_)
    refine r_aloadn hx 1 rfl rfl dX8_nextSquare_24 ?_
    refine r_dup hx rfl dX8_nextSquare_25 ?_
    refine r_getI hx FK8_0 e_this wf_X8_51 dX8_nextSquare_26 ?_
    refine r_iconst hx ci_1 dX8_nextSquare_29 ?_
    refine r_iadd hx dX8_nextSquare_30 ?_
    refine r_putI (ty := .int) hx FK8_0 (fun T N h => by cases h; rfl) e_this wf_X8_51 (by decide +kernel) rfl rfl dX8_nextSquare_31 ?_
    refine r_aloadn hx 0 rfl rfl dX8_nextSquare_34 ?_
    exact r_aret hx rfl hf dX8_nextSquare_35
  · have hf := (f_ite hf).2 q1
    refine r_null hx dX8_nextSquare_8 ?_
    exact r_aret hx rfl hf dX8_nextSquare_9
theorem dX3_isFull_0 : decode bX3_isFull 0 = .ok (.aload_n 0, 1) := by decide +kernel
theorem dX3_isFull_1 : decode bX3_isFull 1 = .ok (.getfield 23, 3) := by decide +kernel
theorem dX3_isFull_4 : decode bX3_isFull 4 = .ok (.bipush 8, 2) := by decide +kernel
theorem dX3_isFull_6 : decode bX3_isFull 6 = .ok (.if_icmp .lt 7, 3) := by decide +kernel
theorem dX3_isFull_9 : decode bX3_isFull 9 = .ok (.iconst 1, 1) := by decide +kernel
theorem dX3_isFull_10 : decode bX3_isFull 10 = .ok (.goto 4, 3) := by decide +kernel
theorem dX3_isFull_13 : decode bX3_isFull 13 = .ok (.iconst 0, 1) := by decide +kernel
theorem dX3_isFull_14 : decode bX3_isFull 14 = .ok (.ireturn, 1) := by decide +kernel
set_option maxRecDepth 20000 in
set_option maxHeartbeats 4000000 in
theorem cX3_isFull {l : Launch} {k : Kx} {F : Nat} {this : Nat} {μ μ' : Mm} {r : Int32} (hk : kok k) (e_this : kex k 3 this) (hf : fX3_isFull F this μ = some (r, μ')) : MM l k 0 yX3_isFull bX3_isFull 1 (some .boolean) [.ref (kad k 3 this)] μ (some (.int r)) μ' := by
  refine MM.of (lv := [(0, .ref (kad k 3 this))]) (plainFor_of_name (by decide)) hk (Nat.le_of_ble_eq_true rfl) rfl (fun z hl hx => ?_)
  subst hl
  have hx : Ok z k bX3_isFull 1 "RopeDance$Row" (some .boolean) 0 (0, 0) := hx
  unfold fX3_isFull at hf
  refine r_aloadn hx 0 rfl rfl dX3_isFull_0 ?_
  refine r_getI hx FK3_0 e_this wf_X3_23 dX3_isFull_1 ?_
  refine r_bipush hx cb_8 dX3_isFull_4 ?_
  refine r_iclt (tgt := 13) hx rfl dX3_isFull_6 (fun q1 => ?_) (fun q1 => ?_)
  · have hf := (f_ite hf).1 q1
    refine r_iconst hx ci_0 dX3_isFull_13 ?_
    exact r_zret hx hf rfl dX3_isFull_14
  · have hf := (f_ite hf).2 q1
    refine r_iconst hx ci_1 dX3_isFull_9 ?_
    refine r_goto (tgt := 14) hx rfl dX3_isFull_10 ?_
    exact r_zret hx hf rfl dX3_isFull_14
theorem dX6_addMove_0 : decode bX6_addMove 0 = .ok (.iload_n 1, 1) := by decide +kernel
theorem dX6_addMove_1 : decode bX6_addMove 1 = .ok (.iconst 2, 1) := by decide +kernel
theorem dX6_addMove_2 : decode bX6_addMove 2 = .ok (.if_icmp .ne 46, 3) := by decide +kernel
theorem dX6_addMove_5 : decode bX6_addMove 5 = .ok (.aload_n 0, 1) := by decide +kernel
theorem dX6_addMove_6 : decode bX6_addMove 6 = .ok (.getfield 7, 3) := by decide +kernel
theorem dX6_addMove_9 : decode bX6_addMove 9 = .ok (.istore_n 3, 1) := by decide +kernel
theorem dX6_addMove_10 : decode bX6_addMove 10 = .ok (.aload_n 0, 1) := by decide +kernel
theorem dX6_addMove_11 : decode bX6_addMove 11 = .ok (.getfield 16, 3) := by decide +kernel
theorem dX6_addMove_14 : decode bX6_addMove 14 = .ok (.istore 4, 2) := by decide +kernel
theorem dX6_addMove_16 : decode bX6_addMove 16 = .ok (.aload_n 0, 1) := by decide +kernel
theorem dX6_addMove_17 : decode bX6_addMove 17 = .ok (.aload_n 0, 1) := by decide +kernel
theorem dX6_addMove_18 : decode bX6_addMove 18 = .ok (.getfield 19, 3) := by decide +kernel
theorem dX6_addMove_21 : decode bX6_addMove 21 = .ok (.ineg, 1) := by decide +kernel
theorem dX6_addMove_22 : decode bX6_addMove 22 = .ok (.putfield 7, 3) := by decide +kernel
theorem dX6_addMove_25 : decode bX6_addMove 25 = .ok (.aload_n 0, 1) := by decide +kernel
theorem dX6_addMove_26 : decode bX6_addMove 26 = .ok (.aload_n 0, 1) := by decide +kernel
theorem dX6_addMove_27 : decode bX6_addMove 27 = .ok (.getfield 13, 3) := by decide +kernel
theorem dX6_addMove_30 : decode bX6_addMove 30 = .ok (.ineg, 1) := by decide +kernel
theorem dX6_addMove_31 : decode bX6_addMove 31 = .ok (.putfield 16, 3) := by decide +kernel
theorem dX6_addMove_34 : decode bX6_addMove 34 = .ok (.aload_n 0, 1) := by decide +kernel
theorem dX6_addMove_35 : decode bX6_addMove 35 = .ok (.iload_n 3, 1) := by decide +kernel
theorem dX6_addMove_36 : decode bX6_addMove 36 = .ok (.putfield 19, 3) := by decide +kernel
theorem dX6_addMove_39 : decode bX6_addMove 39 = .ok (.aload_n 0, 1) := by decide +kernel
theorem dX6_addMove_40 : decode bX6_addMove 40 = .ok (.iload 4, 2) := by decide +kernel
theorem dX6_addMove_42 : decode bX6_addMove 42 = .ok (.putfield 13, 3) := by decide +kernel
theorem dX6_addMove_45 : decode bX6_addMove 45 = .ok (.goto 44, 3) := by decide +kernel
theorem dX6_addMove_48 : decode bX6_addMove 48 = .ok (.iload_n 1, 1) := by decide +kernel
theorem dX6_addMove_49 : decode bX6_addMove 49 = .ok (.ifCond .ne 7, 3) := by decide +kernel
theorem dX6_addMove_52 : decode bX6_addMove 52 = .ok (.iload_n 2, 1) := by decide +kernel
theorem dX6_addMove_53 : decode bX6_addMove 53 = .ok (.goto 5, 3) := by decide +kernel
theorem dX6_addMove_56 : decode bX6_addMove 56 = .ok (.iload_n 2, 1) := by decide +kernel
theorem dX6_addMove_57 : decode bX6_addMove 57 = .ok (.ineg, 1) := by decide +kernel
theorem dX6_addMove_58 : decode bX6_addMove 58 = .ok (.istore_n 3, 1) := by decide +kernel
theorem dX6_addMove_59 : decode bX6_addMove 59 = .ok (.aload_n 0, 1) := by decide +kernel
theorem dX6_addMove_60 : decode bX6_addMove 60 = .ok (.dup, 1) := by decide +kernel
theorem dX6_addMove_61 : decode bX6_addMove 61 = .ok (.getfield 7, 3) := by decide +kernel
theorem dX6_addMove_64 : decode bX6_addMove 64 = .ok (.iload_n 3, 1) := by decide +kernel
theorem dX6_addMove_65 : decode bX6_addMove 65 = .ok (.aload_n 0, 1) := by decide +kernel
theorem dX6_addMove_66 : decode bX6_addMove 66 = .ok (.getfield 19, 3) := by decide +kernel
theorem dX6_addMove_69 : decode bX6_addMove 69 = .ok (.imul, 1) := by decide +kernel
theorem dX6_addMove_70 : decode bX6_addMove 70 = .ok (.iadd, 1) := by decide +kernel
theorem dX6_addMove_71 : decode bX6_addMove 71 = .ok (.putfield 7, 3) := by decide +kernel
theorem dX6_addMove_74 : decode bX6_addMove 74 = .ok (.aload_n 0, 1) := by decide +kernel
theorem dX6_addMove_75 : decode bX6_addMove 75 = .ok (.dup, 1) := by decide +kernel
theorem dX6_addMove_76 : decode bX6_addMove 76 = .ok (.getfield 16, 3) := by decide +kernel
theorem dX6_addMove_79 : decode bX6_addMove 79 = .ok (.iload_n 3, 1) := by decide +kernel
theorem dX6_addMove_80 : decode bX6_addMove 80 = .ok (.aload_n 0, 1) := by decide +kernel
theorem dX6_addMove_81 : decode bX6_addMove 81 = .ok (.getfield 13, 3) := by decide +kernel
theorem dX6_addMove_84 : decode bX6_addMove 84 = .ok (.imul, 1) := by decide +kernel
theorem dX6_addMove_85 : decode bX6_addMove 85 = .ok (.iadd, 1) := by decide +kernel
theorem dX6_addMove_86 : decode bX6_addMove 86 = .ok (.putfield 16, 3) := by decide +kernel
theorem dX6_addMove_89 : decode bX6_addMove 89 = .ok (.return_, 1) := by decide +kernel
set_option maxRecDepth 20000 in
set_option maxHeartbeats 4000000 in
theorem cX6_addMove {l : Launch} {k : Kx} {F : Nat} {this : Nat} {a1 : Int32} {a2 : Int32} {μ μ' : Mm} (hk : kok k) (e_this : kex k 6 this) (hf : fX6_addMove F this a1 a2 μ = some μ') : MM l k 0 yX6_addMove bX6_addMove 5 none [.ref (kad k 6 this), .int a1, .int a2] μ none μ' := by
  refine MM.of (lv := [(0, .ref (kad k 6 this)), (1, .int a1), (2, .int a2)]) (plainFor_of_name (by decide)) hk (Nat.le_of_ble_eq_true rfl) rfl (fun z hl hx => ?_)
  subst hl
  have hx : Ok z k bX6_addMove 5 "RopeDance$Table" none 0 (0, 0) := hx
  have L58 : ∀ (v0 : Nat) (s0 : Int32) (μ : Mm) (e_v0 : kex k 6 v0), fX6_addMove_L58 F v0 s0 μ = some μ' → Gw z k 5 (k, (0, 0), none, none, μ') (0, 0) 58 μ [(0, .ref (kad k 6 v0))] [.int s0] := by
    intro  v0 s0 μ e_v0 hf
    unfold fX6_addMove_L58 at hf
    refine r_istoren (lv' := [(3, .int s0), (0, .ref (kad k 6 v0))]) hx rfl (Nat.le_of_ble_eq_true rfl) rfl dX6_addMove_58 ?_
    refine r_aloadn hx 1 rfl rfl dX6_addMove_59 ?_
    refine r_dup hx rfl dX6_addMove_60 ?_
    refine r_getI hx FK6_0 e_v0 wf_X6_7 dX6_addMove_61 ?_
    refine r_iloadn hx 0 rfl rfl dX6_addMove_64 ?_
    refine r_aloadn hx 1 rfl rfl dX6_addMove_65 ?_
    refine r_getI hx FK6_2 e_v0 wf_X6_19 dX6_addMove_66 ?_
    refine r_imul hx dX6_addMove_69 ?_
    refine r_iadd hx dX6_addMove_70 ?_
    refine r_putI (ty := .int) hx FK6_0 (fun T N h => by cases h; rfl) e_v0 wf_X6_7 (by decide +kernel) rfl rfl dX6_addMove_71 ?_
    refine r_aloadn hx 1 rfl rfl dX6_addMove_74 ?_
    refine r_dup hx rfl dX6_addMove_75 ?_
    refine r_getI hx FK6_1 e_v0 wf_X6_16 dX6_addMove_76 ?_
    refine r_iloadn hx 0 rfl rfl dX6_addMove_79 ?_
    refine r_aloadn hx 1 rfl rfl dX6_addMove_80 ?_
    refine r_getI hx FK6_3 e_v0 wf_X6_13 dX6_addMove_81 ?_
    refine r_imul hx dX6_addMove_84 ?_
    refine r_iadd hx dX6_addMove_85 ?_
    refine r_putI (ty := .int) hx FK6_1 (fun T N h => by cases h; rfl) e_v0 wf_X6_16 (by decide +kernel) rfl rfl dX6_addMove_86 ?_
    exact r_vret hx hf dX6_addMove_89
  unfold fX6_addMove at hf
  refine r_iloadn hx 1 rfl rfl dX6_addMove_0 ?_
  refine r_iconst hx ci_2 dX6_addMove_1 ?_
  refine r_icne (tgt := 48) hx rfl dX6_addMove_2 (fun q1 => ?_) (fun q1 => ?_)
  · have hf := (f_ite hf).2 q1
    refine r_iloadn hx 1 rfl rfl dX6_addMove_48 ?_
    refine r_ifne (tgt := 56) hx rfl dX6_addMove_49 (fun q2 => ?_) (fun q2 => ?_)
    · have hf := (f_ite hf).2 q2
      refine r_iloadn hx 2 rfl rfl dX6_addMove_56 ?_
      refine r_ineg hx dX6_addMove_57 ?_
      refine r_sub [0] rfl ?_
      exact L58  this (-a2) μ e_this hf
    · have hf := (f_ite hf).1 q2
      refine r_iloadn hx 2 rfl rfl dX6_addMove_52 ?_
      refine r_goto (tgt := 58) hx rfl dX6_addMove_53 ?_
      refine r_sub [0] rfl ?_
      exact L58  this a2 μ e_this hf
  · have hf := (f_ite hf).1 q1
    refine r_aloadn hx 0 rfl rfl dX6_addMove_5 ?_
    refine r_getI hx FK6_0 e_this wf_X6_7 dX6_addMove_6 ?_
    refine r_istoren (lv' := [(3, .int (gi μ 6 this 0)), (0, .ref (kad k 6 this)), (1, .int a1), (2, .int a2)]) hx rfl (Nat.le_of_ble_eq_true rfl) rfl dX6_addMove_9 ?_
    refine r_aloadn hx 1 rfl rfl dX6_addMove_10 ?_
    refine r_getI hx FK6_1 e_this wf_X6_16 dX6_addMove_11 ?_
    refine r_istore (lv' := [(4, .int (gi μ 6 this 1)), (3, .int (gi μ 6 this 0)), (0, .ref (kad k 6 this)), (1, .int a1), (2, .int a2)]) hx (Nat.le_of_ble_eq_true rfl) rfl dX6_addMove_14 ?_
    refine r_aloadn hx 2 rfl rfl dX6_addMove_16 ?_
    refine r_aloadn hx 2 rfl rfl dX6_addMove_17 ?_
    refine r_getI hx FK6_2 e_this wf_X6_19 dX6_addMove_18 ?_
    refine r_ineg hx dX6_addMove_21 ?_
    refine r_putI (ty := .int) hx FK6_0 (fun T N h => by cases h; rfl) e_this wf_X6_7 (by decide +kernel) rfl rfl dX6_addMove_22 ?_
    refine r_aloadn hx 2 rfl rfl dX6_addMove_25 ?_
    refine r_aloadn hx 2 rfl rfl dX6_addMove_26 ?_
    refine r_getI hx FK6_3 e_this wf_X6_13 dX6_addMove_27 ?_
    refine r_ineg hx dX6_addMove_30 ?_
    refine r_putI (ty := .int) hx FK6_1 (fun T N h => by cases h; rfl) e_this wf_X6_16 (by decide +kernel) rfl rfl dX6_addMove_31 ?_
    refine r_aloadn hx 2 rfl rfl dX6_addMove_34 ?_
    refine r_iloadn hx 1 rfl rfl dX6_addMove_35 ?_
    refine r_putI (ty := .int) hx FK6_2 (fun T N h => by cases h; rfl) e_this wf_X6_19 (by decide +kernel) rfl rfl dX6_addMove_36 ?_
    refine r_aloadn hx 2 rfl rfl dX6_addMove_39 ?_
    refine r_iload hx 0 rfl dX6_addMove_40 ?_
    refine r_putI (ty := .int) hx FK6_3 (fun T N h => by cases h; rfl) e_this wf_X6_13 (by decide +kernel) rfl rfl dX6_addMove_42 ?_
    refine r_goto (tgt := 89) hx rfl dX6_addMove_45 ?_
    exact r_vret hx hf dX6_addMove_89
theorem dX3_add_0 : decode bX3_add 0 = .ok (.aload_n 0, 1) := by decide +kernel
theorem dX3_add_1 : decode bX3_add 1 = .ok (.invokevirtual 30, 3) := by decide +kernel
theorem dX3_add_4 : decode bX3_add 4 = .ok (.ifCond .eq 4, 3) := by decide +kernel
theorem dX3_add_7 : decode bX3_add 7 = .ok (.return_, 1) := by decide +kernel
theorem dX3_add_8 : decode bX3_add 8 = .ok (.aload_n 0, 1) := by decide +kernel
theorem dX3_add_9 : decode bX3_add 9 = .ok (.getfield 16, 3) := by decide +kernel
theorem dX3_add_12 : decode bX3_add 12 = .ok (.aload_n 0, 1) := by decide +kernel
theorem dX3_add_13 : decode bX3_add 13 = .ok (.getfield 23, 3) := by decide +kernel
theorem dX3_add_16 : decode bX3_add 16 = .ok (.iload_n 1, 1) := by decide +kernel
theorem dX3_add_17 : decode bX3_add 17 = .ok (.iastore, 1) := by decide +kernel
theorem dX3_add_18 : decode bX3_add 18 = .ok (.aload_n 0, 1) := by decide +kernel
theorem dX3_add_19 : decode bX3_add 19 = .ok (.getfield 20, 3) := by decide +kernel
theorem dX3_add_22 : decode bX3_add 22 = .ok (.aload_n 0, 1) := by decide +kernel
theorem dX3_add_23 : decode bX3_add 23 = .ok (.getfield 23, 3) := by decide +kernel
theorem dX3_add_26 : decode bX3_add 26 = .ok (.iload_n 2, 1) := by decide +kernel
theorem dX3_add_27 : decode bX3_add 27 = .ok (.iastore, 1) := by decide +kernel
theorem dX3_add_28 : decode bX3_add 28 = .ok (.aload_n 0, 1) := by decide +kernel
theorem dX3_add_29 : decode bX3_add 29 = .ok (.dup, 1) := by decide +kernel
theorem dX3_add_30 : decode bX3_add 30 = .ok (.getfield 23, 3) := by decide +kernel
theorem dX3_add_33 : decode bX3_add 33 = .ok (.iconst 1, 1) := by decide +kernel
theorem dX3_add_34 : decode bX3_add 34 = .ok (.iadd, 1) := by decide +kernel
theorem dX3_add_35 : decode bX3_add 35 = .ok (.putfield 23, 3) := by decide +kernel
theorem dX3_add_38 : decode bX3_add 38 = .ok (.aload_n 0, 1) := by decide +kernel
theorem dX3_add_39 : decode bX3_add 39 = .ok (.getfield 10, 3) := by decide +kernel
theorem dX3_add_42 : decode bX3_add 42 = .ok (.iload_n 1, 1) := by decide +kernel
theorem dX3_add_43 : decode bX3_add 43 = .ok (.iload_n 2, 1) := by decide +kernel
theorem dX3_add_44 : decode bX3_add 44 = .ok (.invokevirtual 34, 3) := by decide +kernel
theorem dX3_add_47 : decode bX3_add 47 = .ok (.return_, 1) := by decide +kernel
set_option maxRecDepth 20000 in
set_option maxHeartbeats 4000000 in
theorem cX3_add {l : Launch} {k : Kx} {F : Nat} {this : Nat} {a1 : Int32} {a2 : Int32} {μ μ' : Mm} (hk : kok k) (e_this : kex k 3 this) (hf : fX3_add F this a1 a2 μ = some μ') : MM l k 1 yX3_add bX3_add 3 none [.ref (kad k 3 this), .int a1, .int a2] μ none μ' := by
  refine MM.of (lv := [(0, .ref (kad k 3 this)), (1, .int a1), (2, .int a2)]) (plainFor_of_name (by decide)) hk (Nat.le_of_ble_eq_true rfl) rfl (fun z hl hx => ?_)
  subst hl
  have hx : Ok z k bX3_add 3 "RopeDance$Row" none 1 (0, 0) := hx
  unfold fX3_add at hf
  refine r_aloadn hx 0 rfl rfl dX3_add_0 ?_
  obtain ⟨r3, μ2, c1, hf⟩ := f_bd2 hf
  refine r_callV hx (As := []) (rest := []) (st1 := [.int r3]) (c := 3) (i := this) (TT := T3) (N := 4) MK_X3_isFull rfl wi_X3_isFull we_X3_isFull wm_X3_30 ⟨Nat.le_refl _, Nat.le_refl _⟩ (cX3_isFull hk e_this c1) e_this (Nat.le_of_ble_eq_true rfl) rfl rfl (Nat.le_of_ble_eq_true rfl) rfl dX3_add_1 (fun hb4 => ?_)
  refine r_ifeq (tgt := 8) hx rfl dX3_add_4 (fun q5 => ?_) (fun q5 => ?_)
  · have hf := (f_ite hf).1 q5
    refine r_aloadn hx 0 rfl rfl dX3_add_8 ?_
    refine r_getR hx (c' := 25) (i' := this) FK3_2 e_this rfl wf_X3_16 dX3_add_9 (fun e6 => ?_)
    refine r_aloadn hx 0 rfl rfl dX3_add_12 ?_
    refine r_getI hx FK3_0 e_this wf_X3_23 dX3_add_13 ?_
    refine r_iloadn hx 1 rfl rfl dX3_add_16 ?_
    obtain ⟨b7, hf⟩ := f_chk hf
    refine r_iast hx (by decide) rfl e6 b7 rfl dX3_add_17 ?_
    refine r_aloadn hx 0 rfl rfl dX3_add_18 ?_
    refine r_getR hx (c' := 26) (i' := this) FK3_3 e_this rfl wf_X3_20 dX3_add_19 (fun e8 => ?_)
    refine r_aloadn hx 0 rfl rfl dX3_add_22 ?_
    refine r_getI hx FK3_0 e_this wf_X3_23 dX3_add_23 ?_
    refine r_iloadn hx 2 rfl rfl dX3_add_26 ?_
    obtain ⟨b9, hf⟩ := f_chk hf
    refine r_iast hx (by decide) rfl e8 b9 rfl dX3_add_27 ?_
    refine r_aloadn hx 0 rfl rfl dX3_add_28 ?_
    refine r_dup hx rfl dX3_add_29 ?_
    refine r_getI hx FK3_0 e_this wf_X3_23 dX3_add_30 ?_
    refine r_iconst hx ci_1 dX3_add_33 ?_
    refine r_iadd hx dX3_add_34 ?_
    refine r_putI (ty := .int) hx FK3_0 (fun T N h => by cases h; rfl) e_this wf_X3_23 (by decide +kernel) rfl rfl dX3_add_35 ?_
    refine r_aloadn hx 0 rfl rfl dX3_add_38 ?_
    refine r_getR hx (c' := 6) (i' := this) FK3_1 e_this rfl wf_X3_10 dX3_add_39 (fun e10 => ?_)
    refine r_iloadn hx 1 rfl rfl dX3_add_42 ?_
    refine r_iloadn hx 2 rfl rfl dX3_add_43 ?_
    obtain ⟨μ12, c11, hf⟩ := f_bd1 hf
    refine r_callV hx (As := [.int a1, .int a2]) (rest := []) (st1 := []) (c := 6) (i := this) (TT := T6) (N := 4) MK_X6_addMove rfl wi_X6_addMove we_X6_addMove wm_X3_34 ⟨Nat.le_refl _, Nat.le_refl _⟩ (cX6_addMove hk e10 c11) e10 (Nat.le_of_ble_eq_true rfl) rfl rfl (Nat.le_of_ble_eq_true rfl) rfl dX3_add_44 (fun hb13 => ?_)
    exact r_vret hx hf dX3_add_47
  · have hf := (f_ite hf).2 q5
    exact r_vret hx hf dX3_add_7
theorem dX8_isTold_0 : decode bX8_isTold 0 = .ok (.iconst 0, 1) := by decide +kernel
theorem dX8_isTold_1 : decode bX8_isTold 1 = .ok (.istore_n 3, 1) := by decide +kernel
theorem dX8_isTold_2 : decode bX8_isTold 2 = .ok (.iload_n 3, 1) := by decide +kernel
theorem dX8_isTold_3 : decode bX8_isTold 3 = .ok (.aload_n 0, 1) := by decide +kernel
theorem dX8_isTold_4 : decode bX8_isTold 4 = .ok (.getfield 61, 3) := by decide +kernel
theorem dX8_isTold_7 : decode bX8_isTold 7 = .ok (.if_icmp .ge 22, 3) := by decide +kernel
theorem dX8_isTold_10 : decode bX8_isTold 10 = .ok (.aload_n 0, 1) := by decide +kernel
theorem dX8_isTold_11 : decode bX8_isTold 11 = .ok (.getfield 19, 3) := by decide +kernel
theorem dX8_isTold_14 : decode bX8_isTold 14 = .ok (.iload_n 3, 1) := by decide +kernel
theorem dX8_isTold_15 : decode bX8_isTold 15 = .ok (.laload, 1) := by decide +kernel
theorem dX8_isTold_16 : decode bX8_isTold 16 = .ok (.lload_n 1, 1) := by decide +kernel
theorem dX8_isTold_17 : decode bX8_isTold 17 = .ok (.lcmp, 1) := by decide +kernel
theorem dX8_isTold_18 : decode bX8_isTold 18 = .ok (.ifCond .ne 5, 3) := by decide +kernel
theorem dX8_isTold_21 : decode bX8_isTold 21 = .ok (.iconst 1, 1) := by decide +kernel
theorem dX8_isTold_22 : decode bX8_isTold 22 = .ok (.ireturn, 1) := by decide +kernel
theorem dX8_isTold_23 : decode bX8_isTold 23 = .ok (.iinc 3 1, 3) := by decide +kernel
theorem dX8_isTold_26 : decode bX8_isTold 26 = .ok (.goto (-24), 3) := by decide +kernel
theorem dX8_isTold_29 : decode bX8_isTold 29 = .ok (.iconst 0, 1) := by decide +kernel
theorem dX8_isTold_30 : decode bX8_isTold 30 = .ok (.ireturn, 1) := by decide +kernel
set_option maxRecDepth 20000 in
set_option maxHeartbeats 4000000 in
theorem cX8_isTold {l : Launch} {k : Kx} {F : Nat} {this : Nat} {a1 : Int64} {μ μ' : Mm} {r : Int32} (hk : kok k) (e_this : kex k 8 this) (hf : fX8_isTold F this a1 μ = some (r, μ')) : MM l k 0 yX8_isTold bX8_isTold 4 (some .boolean) [.ref (kad k 8 this), .long a1] μ (some (.int r)) μ' := by
  refine MM.of (lv := [(0, .ref (kad k 8 this)), (1, .long a1)]) (plainFor_of_name (by decide)) hk (Nat.le_of_ble_eq_true rfl) rfl (fun z hl hx => ?_)
  subst hl
  have hx : Ok z k bX8_isTold 4 "RopeDance$Text" (some .boolean) 0 (0, 0) := hx
  have L2 : ∀ (n : Nat) (v0 : Nat) (v1 : Int64) (v3 : Int32) (μ : Mm) (e_v0 : kex k 8 v0), fX8_isTold_L2 F n v0 v1 v3 μ = some (r, μ') → Gw z k 4 (k, (0, 0), (some .boolean), (some (.int r)), μ') (0, 0) 2 μ [(0, .ref (kad k 8 v0)), (1, .long v1), (3, .int v3)] [] := by
    intro  n
    induction n with
    | zero =>
      intro v0 v1 v3 μ e_v0 hf
      exact f_no (show (none : Option (Int32 × Mm)) = _ from hf)
    | succ n ih =>
      intro v0 v1 v3 μ e_v0 hf
      rw [fX8_isTold_L2] at hf
      refine r_iloadn hx 2 rfl rfl dX8_isTold_2 ?_
      refine r_aloadn hx 0 rfl rfl dX8_isTold_3 ?_
      refine r_getI hx FK8_7 e_v0 wf_X8_61 dX8_isTold_4 ?_
      refine r_icge (tgt := 29) hx rfl dX8_isTold_7 (fun q1 => ?_) (fun q1 => ?_)
      · have hf := (f_ite hf).1 q1
        refine r_iconst hx ci_0 dX8_isTold_29 ?_
        exact r_zret hx hf rfl dX8_isTold_30
      · have hf := (f_ite hf).2 q1
        refine r_aloadn hx 0 rfl rfl dX8_isTold_10 ?_
        refine r_getR hx (c' := 36) (i' := v0) FK8_6 e_v0 rfl wf_X8_19 dX8_isTold_11 (fun e2 => ?_)
        refine r_iloadn hx 2 rfl rfl dX8_isTold_14 ?_
        obtain ⟨b3, hf⟩ := f_chk hf
        refine r_lald hx (by decide) rfl e2 b3 rfl dX8_isTold_15 ?_
        refine r_lloadn hx 1 rfl rfl dX8_isTold_16 ?_
        refine r_lcmp hx dX8_isTold_17 ?_
        refine r_ifne (tgt := 23) hx rfl dX8_isTold_18 (fun q4 => ?_) (fun q4 => ?_)
        · have hf := (f_ite hf).2 q4
          refine r_iinc (lv' := [(3, .int (v3 + 1)), (0, .ref (kad k 8 v0)), (1, .long v1)]) hx 2 rfl (congrArg (fun y => v3 + y) ci_1) (Nat.le_of_ble_eq_true rfl) rfl dX8_isTold_23 ?_
          refine r_goto (tgt := 2) hx rfl dX8_isTold_26 ?_
          refine r_sub [1, 2, 0] rfl ?_
          exact ih v0 v1 (v3 + 1) μ e_v0 hf
        · have hf := (f_ite hf).1 q4
          refine r_iconst hx ci_1 dX8_isTold_21 ?_
          exact r_zret hx hf rfl dX8_isTold_22
  unfold fX8_isTold at hf
  refine r_iconst hx ci_0 dX8_isTold_0 ?_
  refine r_istoren (lv' := [(3, .int 0), (0, .ref (kad k 8 this)), (1, .long a1)]) hx rfl (Nat.le_of_ble_eq_true rfl) rfl dX8_isTold_1 ?_
  refine r_sub [1, 2, 0] rfl ?_
  exact L2 F this a1 0 μ e_this hf
theorem dX8_addName_0 : decode bX8_addName 0 = .ok (.aload_n 0, 1) := by decide +kernel
theorem dX8_addName_1 : decode bX8_addName 1 = .ok (.getfield 61, 3) := by decide +kernel
theorem dX8_addName_4 : decode bX8_addName 4 = .ok (.aload_n 0, 1) := by decide +kernel
theorem dX8_addName_5 : decode bX8_addName 5 = .ok (.getfield 19, 3) := by decide +kernel
theorem dX8_addName_8 : decode bX8_addName 8 = .ok (.arraylength, 1) := by decide +kernel
theorem dX8_addName_9 : decode bX8_addName 9 = .ok (.if_icmp .ge 23, 3) := by decide +kernel
theorem dX8_addName_12 : decode bX8_addName 12 = .ok (.aload_n 0, 1) := by decide +kernel
theorem dX8_addName_13 : decode bX8_addName 13 = .ok (.getfield 19, 3) := by decide +kernel
theorem dX8_addName_16 : decode bX8_addName 16 = .ok (.aload_n 0, 1) := by decide +kernel
theorem dX8_addName_17 : decode bX8_addName 17 = .ok (.getfield 61, 3) := by decide +kernel
theorem dX8_addName_20 : decode bX8_addName 20 = .ok (.lload_n 1, 1) := by decide +kernel
theorem dX8_addName_21 : decode bX8_addName 21 = .ok (.lastore, 1) := by decide +kernel
theorem dX8_addName_22 : decode bX8_addName 22 = .ok (.aload_n 0, 1) := by decide +kernel
theorem dX8_addName_23 : decode bX8_addName 23 = .ok (.dup, 1) := by decide +kernel
theorem dX8_addName_24 : decode bX8_addName 24 = .ok (.getfield 61, 3) := by decide +kernel
theorem dX8_addName_27 : decode bX8_addName 27 = .ok (.iconst 1, 1) := by decide +kernel
theorem dX8_addName_28 : decode bX8_addName 28 = .ok (.iadd, 1) := by decide +kernel
theorem dX8_addName_29 : decode bX8_addName 29 = .ok (.putfield 61, 3) := by decide +kernel
theorem dX8_addName_32 : decode bX8_addName 32 = .ok (.return_, 1) := by decide +kernel
set_option maxRecDepth 20000 in
set_option maxHeartbeats 4000000 in
theorem cX8_addName {l : Launch} {k : Kx} {F : Nat} {this : Nat} {a1 : Int64} {μ μ' : Mm} (hk : kok k) (e_this : kex k 8 this) (hf : fX8_addName F this a1 μ = some μ') : MM l k 0 yX8_addName bX8_addName 3 none [.ref (kad k 8 this), .long a1] μ none μ' := by
  refine MM.of (lv := [(0, .ref (kad k 8 this)), (1, .long a1)]) (plainFor_of_name (by decide)) hk (Nat.le_of_ble_eq_true rfl) rfl (fun z hl hx => ?_)
  subst hl
  have hx : Ok z k bX8_addName 3 "RopeDance$Text" none 0 (0, 0) := hx
  unfold fX8_addName at hf
  refine r_aloadn hx 0 rfl rfl dX8_addName_0 ?_
  refine r_getI hx FK8_7 e_this wf_X8_61 dX8_addName_1 ?_
  refine r_aloadn hx 0 rfl rfl dX8_addName_4 ?_
  refine r_getR hx (c' := 36) (i' := this) FK8_6 e_this rfl wf_X8_19 dX8_addName_5 (fun e1 => ?_)
  refine r_alen (v := 9) hx (by decide) (by decide) e1 (by decide) dX8_addName_8 ?_
  refine r_icge (tgt := 32) hx rfl dX8_addName_9 (fun q2 => ?_) (fun q2 => ?_)
  · have hf := (f_ite hf).1 q2
    exact r_vret hx hf dX8_addName_32
  · have hf := (f_ite hf).2 q2
    refine r_aloadn hx 0 rfl rfl dX8_addName_12 ?_
    refine r_getR hx (c' := 36) (i' := this) FK8_6 e_this rfl wf_X8_19 dX8_addName_13 (fun e3 => ?_)
    refine r_aloadn hx 0 rfl rfl dX8_addName_16 ?_
    refine r_getI hx FK8_7 e_this wf_X8_61 dX8_addName_17 ?_
    refine r_lloadn hx 1 rfl rfl dX8_addName_20 ?_
    obtain ⟨b4, hf⟩ := f_chk hf
    refine r_last hx (by decide) rfl e3 b4 rfl dX8_addName_21 ?_
    refine r_aloadn hx 0 rfl rfl dX8_addName_22 ?_
    refine r_dup hx rfl dX8_addName_23 ?_
    refine r_getI hx FK8_7 e_this wf_X8_61 dX8_addName_24 ?_
    refine r_iconst hx ci_1 dX8_addName_27 ?_
    refine r_iadd hx dX8_addName_28 ?_
    refine r_putI (ty := .int) hx FK8_7 (fun T N h => by cases h; rfl) e_this wf_X8_61 (by decide +kernel) rfl rfl dX8_addName_29 ?_
    exact r_vret hx hf dX8_addName_32
theorem dX8_nextFigure_0 : decode bX8_nextFigure 0 = .ok (.aload_n 0, 1) := by decide +kernel
theorem dX8_nextFigure_1 : decode bX8_nextFigure 1 = .ok (.getfield 55, 3) := by decide +kernel
theorem dX8_nextFigure_4 : decode bX8_nextFigure 4 = .ok (.iconst 5, 1) := by decide +kernel
theorem dX8_nextFigure_5 : decode bX8_nextFigure 5 = .ok (.if_icmp .lt 5, 3) := by decide +kernel
theorem dX8_nextFigure_8 : decode bX8_nextFigure 8 = .ok (.aconst_null, 1) := by decide +kernel
theorem dX8_nextFigure_9 : decode bX8_nextFigure 9 = .ok (.areturn, 1) := by decide +kernel
theorem dX8_nextFigure_10 : decode bX8_nextFigure 10 = .ok (.aload_n 0, 1) := by decide +kernel
theorem dX8_nextFigure_11 : decode bX8_nextFigure 11 = .ok (.getfield 16, 3) := by decide +kernel
theorem dX8_nextFigure_14 : decode bX8_nextFigure 14 = .ok (.aload_n 0, 1) := by decide +kernel
theorem dX8_nextFigure_15 : decode bX8_nextFigure 15 = .ok (.getfield 55, 3) := by decide +kernel
theorem dX8_nextFigure_18 : decode bX8_nextFigure 18 = .ok (.aaload, 1) := by decide +kernel
theorem dX8_nextFigure_19 : decode bX8_nextFigure 19 = .ok (.astore_n 1, 1) := by decide +kernel
theorem dX8_nextFigure_20 : decode bX8_nextFigure 20 = .ok (.aload_n 1, 1) := by decide +kernel
theorem dX8_nextFigure_21 : decode bX8_nextFigure 21 = .ok (.invokevirtual 78, 3) := by decide +kernel
theorem dX8_nextFigure_24 : decode bX8_nextFigure 24 = .ok (.aload_n 0, 1) := by decide +kernel
theorem dX8_nextFigure_25 : decode bX8_nextFigure 25 = .ok (.dup, 1) := by decide +kernel
theorem dX8_nextFigure_26 : decode bX8_nextFigure 26 = .ok (.getfield 55, 3) := by decide +kernel
theorem dX8_nextFigure_29 : decode bX8_nextFigure 29 = .ok (.iconst 1, 1) := by decide +kernel
theorem dX8_nextFigure_30 : decode bX8_nextFigure 30 = .ok (.iadd, 1) := by decide +kernel
theorem dX8_nextFigure_31 : decode bX8_nextFigure 31 = .ok (.putfield 55, 3) := by decide +kernel
theorem dX8_nextFigure_34 : decode bX8_nextFigure 34 = .ok (.aload_n 1, 1) := by decide +kernel
theorem dX8_nextFigure_35 : decode bX8_nextFigure 35 = .ok (.areturn, 1) := by decide +kernel
set_option maxRecDepth 20000 in
set_option maxHeartbeats 4000000 in
theorem cX8_nextFigure {l : Launch} {k : Kx} {F : Nat} {this : Nat} {μ μ' : Mm} {r : Option Nat} (hk : kok k) (e_this : kex k 8 this) (hf : fX8_nextFigure F this μ = some (r, μ')) : MM l k 2 yX8_nextFigure bX8_nextFigure 2 (some (.object "RopeDance$Row")) [.ref (kad k 8 this)] μ (some (rp k 3 r)) μ' := by
  refine MM.of (lv := [(0, .ref (kad k 8 this))]) (plainFor_of_name (by decide)) hk (Nat.le_of_ble_eq_true rfl) rfl (fun z hl hx => ?_)
  subst hl
  have hx : Ok z k bX8_nextFigure 2 "RopeDance$Text" (some (.object "RopeDance$Row")) 2 (0, 0) := hx
  unfold fX8_nextFigure at hf
  refine r_aloadn hx 0 rfl rfl dX8_nextFigure_0 ?_
  refine r_getI hx FK8_1 e_this wf_X8_55 dX8_nextFigure_1 ?_
  refine r_iconst hx ci_5 dX8_nextFigure_4 ?_
  refine r_iclt (tgt := 10) hx rfl dX8_nextFigure_5 (fun q1 => ?_) (fun q1 => ?_)
  · have hf := (f_ite hf).1 q1
    refine r_aloadn hx 0 rfl rfl dX8_nextFigure_10 ?_
    refine r_getR hx (c' := 35) (i' := this) FK8_4 e_this rfl wf_X8_16 dX8_nextFigure_11 (fun e2 => ?_)
    refine r_aloadn hx 0 rfl rfl dX8_nextFigure_14 ?_
    refine r_getI hx FK8_1 e_this wf_X8_55 dX8_nextFigure_15 ?_
    obtain ⟨b3, hf⟩ := f_chk hf
    refine r_aald hx (c' := 3) (i' := (9 * this + 4 + (gi μ 8 this 1).toNatClampNeg)) (by decide) (by decide) (by decide) e2 b3 rfl rfl dX8_nextFigure_18 (fun e4 => ?_)
    refine r_astoren (lv' := [(1, .ref (kad k 3 (9 * this + 4 + (gi μ 8 this 1).toNatClampNeg))), (0, .ref (kad k 8 this))]) hx rfl (Nat.le_of_ble_eq_true rfl) rfl dX8_nextFigure_19 ?_
    refine r_aloadn hx 0 rfl rfl dX8_nextFigure_20 ?_
    obtain ⟨μ6, c5, hf⟩ := f_bd1 hf
    refine r_callV hx (As := []) (rest := []) (st1 := []) (c := 3) (i := (9 * this + 4 + (gi μ 8 this 1).toNatClampNeg)) (TT := T3) (N := 4) MK_X3_clear rfl wi_X3_clear we_X3_clear wm_X8_78 ⟨Nat.le_refl _, Nat.le_refl _⟩ (cX3_clear hk e4 c5) e4 (Nat.le_of_ble_eq_true rfl) rfl rfl (Nat.le_of_ble_eq_true rfl) rfl dX8_nextFigure_21 (fun hb7 => ?_)
    refine r_aloadn hx 1 rfl rfl dX8_nextFigure_24 ?_
    refine r_dup hx rfl dX8_nextFigure_25 ?_
    refine r_getI hx FK8_1 e_this wf_X8_55 dX8_nextFigure_26 ?_
    refine r_iconst hx ci_1 dX8_nextFigure_29 ?_
    refine r_iadd hx dX8_nextFigure_30 ?_
    refine r_putI (ty := .int) hx FK8_1 (fun T N h => by cases h; rfl) e_this wf_X8_55 (by decide +kernel) rfl rfl dX8_nextFigure_31 ?_
    refine r_aloadn hx 0 rfl rfl dX8_nextFigure_34 ?_
    exact r_aret hx rfl hf dX8_nextFigure_35
  · have hf := (f_ite hf).2 q1
    refine r_null hx dX8_nextFigure_8 ?_
    exact r_aret hx rfl hf dX8_nextFigure_9
theorem dX8_addUnless_0 : decode bX8_addUnless 0 = .ok (.aload_n 0, 1) := by decide +kernel
theorem dX8_addUnless_1 : decode bX8_addUnless 1 = .ok (.bipush (-14), 2) := by decide +kernel
theorem dX8_addUnless_3 : decode bX8_addUnless 3 = .ok (.invokevirtual 75, 3) := by decide +kernel
theorem dX8_addUnless_6 : decode bX8_addUnless 6 = .ok (.aload_n 0, 1) := by decide +kernel
theorem dX8_addUnless_7 : decode bX8_addUnless 7 = .ok (.iconst 0, 1) := by decide +kernel
theorem dX8_addUnless_8 : decode bX8_addUnless 8 = .ok (.invokevirtual 75, 3) := by decide +kernel
theorem dX8_addUnless_11 : decode bX8_addUnless 11 = .ok (.aload_n 0, 1) := by decide +kernel
theorem dX8_addUnless_12 : decode bX8_addUnless 12 = .ok (.getfield 64, 3) := by decide +kernel
theorem dX8_addUnless_15 : decode bX8_addUnless 15 = .ok (.iconst 1, 1) := by decide +kernel
theorem dX8_addUnless_16 : decode bX8_addUnless 16 = .ok (.isub, 1) := by decide +kernel
theorem dX8_addUnless_17 : decode bX8_addUnless 17 = .ok (.ireturn, 1) := by decide +kernel
set_option maxRecDepth 20000 in
set_option maxHeartbeats 4000000 in
theorem cX8_addUnless {l : Launch} {k : Kx} {F : Nat} {this : Nat} {μ μ' : Mm} {r : Int32} (hk : kok k) (e_this : kex k 8 this) (hf : fX8_addUnless F this μ = some (r, μ')) : MM l k 1 yX8_addUnless bX8_addUnless 1 (some .int) [.ref (kad k 8 this)] μ (some (.int r)) μ' := by
  refine MM.of (lv := [(0, .ref (kad k 8 this))]) (plainFor_of_name (by decide)) hk (Nat.le_of_ble_eq_true rfl) rfl (fun z hl hx => ?_)
  subst hl
  have hx : Ok z k bX8_addUnless 1 "RopeDance$Text" (some .int) 1 (0, 0) := hx
  unfold fX8_addUnless at hf
  refine r_aloadn hx 0 rfl rfl dX8_addUnless_0 ?_
  refine r_bipush hx cb_m14 dX8_addUnless_1 ?_
  obtain ⟨μ2, c1, hf⟩ := f_bd1 hf
  refine r_callV hx (As := [.int (-14)]) (rest := []) (st1 := []) (c := 8) (i := this) (TT := T8) (N := 13) MK_X8_addCode rfl wi_X8_addCode we_X8_addCode wm_X8_75 ⟨Nat.le_refl _, Nat.le_refl _⟩ (cX8_addCode hk e_this c1) e_this (Nat.le_of_ble_eq_true rfl) rfl rfl (Nat.le_of_ble_eq_true rfl) rfl dX8_addUnless_3 (fun hb3 => ?_)
  refine r_aloadn hx 0 rfl rfl dX8_addUnless_6 ?_
  refine r_iconst hx ci_0 dX8_addUnless_7 ?_
  obtain ⟨μ5, c4, hf⟩ := f_bd1 hf
  refine r_callV hx (As := [.int 0]) (rest := []) (st1 := []) (c := 8) (i := this) (TT := T8) (N := 13) MK_X8_addCode rfl wi_X8_addCode we_X8_addCode wm_X8_75 ⟨Nat.le_refl _, Nat.le_refl _⟩ (cX8_addCode hk e_this c4) e_this (Nat.le_of_ble_eq_true rfl) rfl rfl (Nat.le_of_ble_eq_true rfl) rfl dX8_addUnless_8 (fun hb6 => ?_)
  refine r_aloadn hx 0 rfl rfl dX8_addUnless_11 ?_
  refine r_getI hx FK8_5 e_this wf_X8_64 dX8_addUnless_12 ?_
  refine r_iconst hx ci_1 dX8_addUnless_15 ?_
  refine r_isub hx dX8_addUnless_16 ?_
  exact r_iret hx hf dX8_addUnless_17
theorem dX8_sendHere_0 : decode bX8_sendHere 0 = .ok (.iload_n 1, 1) := by decide +kernel
theorem dX8_sendHere_1 : decode bX8_sendHere 1 = .ok (.ifCond .lt 21, 3) := by decide +kernel
theorem dX8_sendHere_4 : decode bX8_sendHere 4 = .ok (.iload_n 1, 1) := by decide +kernel
theorem dX8_sendHere_5 : decode bX8_sendHere 5 = .ok (.aload_n 0, 1) := by decide +kernel
theorem dX8_sendHere_6 : decode bX8_sendHere 6 = .ok (.getfield 64, 3) := by decide +kernel
theorem dX8_sendHere_9 : decode bX8_sendHere 9 = .ok (.if_icmp .ge 13, 3) := by decide +kernel
theorem dX8_sendHere_12 : decode bX8_sendHere 12 = .ok (.aload_n 0, 1) := by decide +kernel
theorem dX8_sendHere_13 : decode bX8_sendHere 13 = .ok (.getfield 25, 3) := by decide +kernel
theorem dX8_sendHere_16 : decode bX8_sendHere 16 = .ok (.iload_n 1, 1) := by decide +kernel
theorem dX8_sendHere_17 : decode bX8_sendHere 17 = .ok (.aload_n 0, 1) := by decide +kernel
theorem dX8_sendHere_18 : decode bX8_sendHere 18 = .ok (.getfield 64, 3) := by decide +kernel
theorem dX8_sendHere_21 : decode bX8_sendHere 21 = .ok (.iastore, 1) := by decide +kernel
theorem dX8_sendHere_22 : decode bX8_sendHere 22 = .ok (.return_, 1) := by decide +kernel
set_option maxRecDepth 20000 in
set_option maxHeartbeats 4000000 in
theorem cX8_sendHere {l : Launch} {k : Kx} {F : Nat} {this : Nat} {a1 : Int32} {μ μ' : Mm} (hk : kok k) (e_this : kex k 8 this) (hf : fX8_sendHere F this a1 μ = some μ') : MM l k 0 yX8_sendHere bX8_sendHere 2 none [.ref (kad k 8 this), .int a1] μ none μ' := by
  refine MM.of (lv := [(0, .ref (kad k 8 this)), (1, .int a1)]) (plainFor_of_name (by decide)) hk (Nat.le_of_ble_eq_true rfl) rfl (fun z hl hx => ?_)
  subst hl
  have hx : Ok z k bX8_sendHere 2 "RopeDance$Text" none 0 (0, 0) := hx
  unfold fX8_sendHere at hf
  refine r_iloadn hx 1 rfl rfl dX8_sendHere_0 ?_
  refine r_iflt (tgt := 22) hx rfl dX8_sendHere_1 (fun q1 => ?_) (fun q1 => ?_)
  · have hf := (f_ite hf).1 q1
    exact r_vret hx hf dX8_sendHere_22
  · have hf := (f_ite hf).2 q1
    refine r_iloadn hx 1 rfl rfl dX8_sendHere_4 ?_
    refine r_aloadn hx 0 rfl rfl dX8_sendHere_5 ?_
    refine r_getI hx FK8_5 e_this wf_X8_64 dX8_sendHere_6 ?_
    refine r_icge (tgt := 22) hx rfl dX8_sendHere_9 (fun q2 => ?_) (fun q2 => ?_)
    · have hf := (f_ite hf).1 q2
      exact r_vret hx hf dX8_sendHere_22
    · have hf := (f_ite hf).2 q2
      refine r_aloadn hx 0 rfl rfl dX8_sendHere_12 ?_
      refine r_getR hx (c' := 37) (i' := this) FK8_8 e_this rfl wf_X8_25 dX8_sendHere_13 (fun e3 => ?_)
      refine r_iloadn hx 1 rfl rfl dX8_sendHere_16 ?_
      refine r_aloadn hx 0 rfl rfl dX8_sendHere_17 ?_
      refine r_getI hx FK8_5 e_this wf_X8_64 dX8_sendHere_18 ?_
      obtain ⟨b4, hf⟩ := f_chk hf
      refine r_iast hx (by decide) rfl e3 b4 rfl dX8_sendHere_21 ?_
      exact r_vret hx hf dX8_sendHere_22
theorem dX5_take_0 : decode bX5_take 0 = .ok (.aload_n 0, 1) := by decide +kernel
theorem dX5_take_1 : decode bX5_take 1 = .ok (.aload_n 1, 1) := by decide +kernel
theorem dX5_take_2 : decode bX5_take 2 = .ok (.invokevirtual 13, 3) := by decide +kernel
theorem dX5_take_5 : decode bX5_take 5 = .ok (.aload_n 0, 1) := by decide +kernel
theorem dX5_take_6 : decode bX5_take 6 = .ok (.aload_n 1, 1) := by decide +kernel
theorem dX5_take_7 : decode bX5_take 7 = .ok (.getfield 17, 3) := by decide +kernel
theorem dX5_take_10 : decode bX5_take 10 = .ok (.putfield 17, 3) := by decide +kernel
theorem dX5_take_13 : decode bX5_take 13 = .ok (.aload_n 0, 1) := by decide +kernel
theorem dX5_take_14 : decode bX5_take 14 = .ok (.aload_n 1, 1) := by decide +kernel
theorem dX5_take_15 : decode bX5_take 15 = .ok (.getfield 20, 3) := by decide +kernel
theorem dX5_take_18 : decode bX5_take 18 = .ok (.putfield 20, 3) := by decide +kernel
theorem dX5_take_21 : decode bX5_take 21 = .ok (.return_, 1) := by decide +kernel
set_option maxRecDepth 20000 in
set_option maxHeartbeats 4000000 in
theorem cX5_take {l : Launch} {k : Kx} {F : Nat} {this : Nat} {a1 : Nat} {μ μ' : Mm} (hk : kok k) (e_this : kex k 5 this) (e_a1 : kex k 5 a1) (hf : fX5_take F this a1 μ = some μ') : MM l k 1 yX5_take bX5_take 2 none [.ref (kad k 5 this), .ref (kad k 5 a1)] μ none μ' := by
  refine MM.of (lv := [(0, .ref (kad k 5 this)), (1, .ref (kad k 5 a1))]) (plainFor_of_name (by decide)) hk (Nat.le_of_ble_eq_true rfl) rfl (fun z hl hx => ?_)
  subst hl
  have hx : Ok z k bX5_take 2 "RopeDance$Square" none 1 (0, 0) := hx
  unfold fX5_take at hf
  refine r_aloadn hx 0 rfl rfl dX5_take_0 ?_
  refine r_aloadn hx 1 rfl rfl dX5_take_1 ?_
  obtain ⟨μ2, c1, hf⟩ := f_bd1 hf
  refine r_callV hx (As := [.ref (kad k 5 a1)]) (rest := []) (st1 := []) (c := 5) (i := this) (TT := T5) (N := 4) MK_X5_takeTangle rfl wi_X5_takeTangle we_X5_takeTangle wm_X5_13 ⟨Nat.le_refl _, Nat.le_refl _⟩ (cX5_takeTangle hk e_this e_a1 c1) e_this (Nat.le_of_ble_eq_true rfl) rfl rfl (Nat.le_of_ble_eq_true rfl) rfl dX5_take_2 (fun hb3 => ?_)
  refine r_aloadn hx 0 rfl rfl dX5_take_5 ?_
  refine r_aloadn hx 1 rfl rfl dX5_take_6 ?_
  refine r_getI hx FK5_2 e_a1 wf_X5_17 dX5_take_7 ?_
  refine r_putI (ty := .int) hx FK5_2 (fun T N h => by cases h; rfl) e_this wf_X5_17 (by decide +kernel) rfl rfl dX5_take_10 ?_
  refine r_aloadn hx 0 rfl rfl dX5_take_13 ?_
  refine r_aloadn hx 1 rfl rfl dX5_take_14 ?_
  refine r_getI hx FK5_3 e_a1 wf_X5_20 dX5_take_15 ?_
  refine r_putI (ty := .int) hx FK5_3 (fun T N h => by cases h; rfl) e_this wf_X5_20 (by decide +kernel) rfl rfl dX5_take_18 ?_
  exact r_vret hx hf dX5_take_21
theorem dX5_isUndone_0 : decode bX5_isUndone 0 = .ok (.aload_n 0, 1) := by decide +kernel
theorem dX5_isUndone_1 : decode bX5_isUndone 1 = .ok (.getfield 23, 3) := by decide +kernel
theorem dX5_isUndone_4 : decode bX5_isUndone 4 = .ok (.ifCond .ne 7, 3) := by decide +kernel
theorem dX5_isUndone_7 : decode bX5_isUndone 7 = .ok (.iconst 1, 1) := by decide +kernel
theorem dX5_isUndone_8 : decode bX5_isUndone 8 = .ok (.goto 4, 3) := by decide +kernel
theorem dX5_isUndone_11 : decode bX5_isUndone 11 = .ok (.iconst 0, 1) := by decide +kernel
theorem dX5_isUndone_12 : decode bX5_isUndone 12 = .ok (.ireturn, 1) := by decide +kernel
set_option maxRecDepth 20000 in
set_option maxHeartbeats 4000000 in
theorem cX5_isUndone {l : Launch} {k : Kx} {F : Nat} {this : Nat} {μ μ' : Mm} {r : Int32} (hk : kok k) (e_this : kex k 5 this) (hf : fX5_isUndone F this μ = some (r, μ')) : MM l k 0 yX5_isUndone bX5_isUndone 1 (some .boolean) [.ref (kad k 5 this)] μ (some (.int r)) μ' := by
  refine MM.of (lv := [(0, .ref (kad k 5 this))]) (plainFor_of_name (by decide)) hk (Nat.le_of_ble_eq_true rfl) rfl (fun z hl hx => ?_)
  subst hl
  have hx : Ok z k bX5_isUndone 1 "RopeDance$Square" (some .boolean) 0 (0, 0) := hx
  unfold fX5_isUndone at hf
  refine r_aloadn hx 0 rfl rfl dX5_isUndone_0 ?_
  refine r_getI hx FK5_0 e_this wf_X5_23 dX5_isUndone_1 ?_
  refine r_ifne (tgt := 11) hx rfl dX5_isUndone_4 (fun q1 => ?_) (fun q1 => ?_)
  · have hf := (f_ite hf).2 q1
    refine r_iconst hx ci_0 dX5_isUndone_11 ?_
    exact r_zret hx hf rfl dX5_isUndone_12
  · have hf := (f_ite hf).1 q1
    refine r_iconst hx ci_1 dX5_isUndone_7 ?_
    refine r_goto (tgt := 12) hx rfl dX5_isUndone_8 ?_
    exact r_zret hx hf rfl dX5_isUndone_12
theorem dX5_closedP_0 : decode bX5_closedP 0 = .ok (.aload_n 0, 1) := by decide +kernel
theorem dX5_closedP_1 : decode bX5_closedP 1 = .ok (.getfield 23, 3) := by decide +kernel
theorem dX5_closedP_4 : decode bX5_closedP 4 = .ok (.invokestatic 35, 3) := by decide +kernel
theorem dX5_closedP_7 : decode bX5_closedP 7 = .ok (.ireturn, 1) := by decide +kernel
set_option maxRecDepth 20000 in
set_option maxHeartbeats 4000000 in
theorem cX5_closedP {l : Launch} {k : Kx} {F : Nat} {this : Nat} {μ μ' : Mm} {r : Int32} (hk : kok k) (e_this : kex k 5 this) (hf : fX5_closedP F this μ = some (r, μ')) : MM l k 1 yX5_closedP bX5_closedP 1 (some .int) [.ref (kad k 5 this)] μ (some (.int r)) μ' := by
  refine MM.of (lv := [(0, .ref (kad k 5 this))]) (plainFor_of_name (by decide)) hk (Nat.le_of_ble_eq_true rfl) rfl (fun z hl hx => ?_)
  subst hl
  have hx : Ok z k bX5_closedP 1 "RopeDance$Square" (some .int) 1 (0, 0) := hx
  unfold fX5_closedP at hf
  refine r_aloadn hx 0 rfl rfl dX5_closedP_0 ?_
  refine r_getI hx FK5_0 e_this wf_X5_23 dX5_closedP_1 ?_
  refine r_mabs hx wm_X5_35 xws_abs xwm xwk_abs ⟨Nat.le_refl _, Nat.le_refl _⟩ (Nat.le_of_ble_eq_true rfl) (Nat.le_of_ble_eq_true rfl) dX5_closedP_4 ?_
  exact r_iret hx hf dX5_closedP_7
theorem dJ9_floorMod_7cf53_0 : decode bJ9_floorMod_7cf53 0 = .ok (.iload_n 0, 1) := by decide +kernel
theorem dJ9_floorMod_7cf53_1 : decode bJ9_floorMod_7cf53 1 = .ok (.iload_n 1, 1) := by decide +kernel
theorem dJ9_floorMod_7cf53_2 : decode bJ9_floorMod_7cf53 2 = .ok (.irem, 1) := by decide +kernel
theorem dJ9_floorMod_7cf53_3 : decode bJ9_floorMod_7cf53 3 = .ok (.istore_n 2, 1) := by decide +kernel
theorem dJ9_floorMod_7cf53_4 : decode bJ9_floorMod_7cf53 4 = .ok (.iload_n 0, 1) := by decide +kernel
theorem dJ9_floorMod_7cf53_5 : decode bJ9_floorMod_7cf53 5 = .ok (.iload_n 1, 1) := by decide +kernel
theorem dJ9_floorMod_7cf53_6 : decode bJ9_floorMod_7cf53 6 = .ok (.ixor, 1) := by decide +kernel
theorem dJ9_floorMod_7cf53_7 : decode bJ9_floorMod_7cf53 7 = .ok (.ifCond .ge 11, 3) := by decide +kernel
theorem dJ9_floorMod_7cf53_10 : decode bJ9_floorMod_7cf53 10 = .ok (.iload_n 2, 1) := by decide +kernel
theorem dJ9_floorMod_7cf53_11 : decode bJ9_floorMod_7cf53 11 = .ok (.ifCond .eq 7, 3) := by decide +kernel
theorem dJ9_floorMod_7cf53_14 : decode bJ9_floorMod_7cf53 14 = .ok (.iload_n 2, 1) := by decide +kernel
theorem dJ9_floorMod_7cf53_15 : decode bJ9_floorMod_7cf53 15 = .ok (.iload_n 1, 1) := by decide +kernel
theorem dJ9_floorMod_7cf53_16 : decode bJ9_floorMod_7cf53 16 = .ok (.iadd, 1) := by decide +kernel
theorem dJ9_floorMod_7cf53_17 : decode bJ9_floorMod_7cf53 17 = .ok (.ireturn, 1) := by decide +kernel
theorem dJ9_floorMod_7cf53_18 : decode bJ9_floorMod_7cf53 18 = .ok (.iload_n 2, 1) := by decide +kernel
theorem dJ9_floorMod_7cf53_19 : decode bJ9_floorMod_7cf53 19 = .ok (.ireturn, 1) := by decide +kernel
set_option maxRecDepth 20000 in
set_option maxHeartbeats 4000000 in
theorem cJ9_floorMod_7cf53 {l : Launch} {k : Kx} {F : Nat} {a0 : Int32} {a1 : Int32} {μ μ' : Mm} {r : Int32} (hk : kok k) (hf : fJ9_floorMod_7cf53 F a0 a1 μ = some (r, μ')) : MM l k 0 yJ9_floorMod_7cf53 bJ9_floorMod_7cf53 3 (some .int) [.int a0, .int a1] μ (some (.int r)) μ' := by
  refine MM.of (lv := [(0, .int a0), (1, .int a1)]) (by decide +kernel) hk (Nat.le_of_ble_eq_true rfl) rfl (fun z hl hx => ?_)
  subst hl
  have hx : Ok z k bJ9_floorMod_7cf53 3 "java/lang/Math" (some .int) 0 (0, 0) := hx
  unfold fJ9_floorMod_7cf53 at hf
  refine r_iloadn hx 0 rfl rfl dJ9_floorMod_7cf53_0 ?_
  refine r_iloadn hx 1 rfl rfl dJ9_floorMod_7cf53_1 ?_
  obtain ⟨q1, hf⟩ := f_nz hf
  refine r_irem hx q1 dJ9_floorMod_7cf53_2 ?_
  refine r_istoren (lv' := [(2, .int (irm a0 a1)), (0, .int a0), (1, .int a1)]) hx rfl (Nat.le_of_ble_eq_true rfl) rfl dJ9_floorMod_7cf53_3 ?_
  refine r_iloadn hx 1 rfl rfl dJ9_floorMod_7cf53_4 ?_
  refine r_iloadn hx 2 rfl rfl dJ9_floorMod_7cf53_5 ?_
  refine r_ixor hx dJ9_floorMod_7cf53_6 ?_
  refine r_ifge (tgt := 18) hx rfl dJ9_floorMod_7cf53_7 (fun q2 => ?_) (fun q2 => ?_)
  · have hf := (f_ite hf).1 q2
    refine r_iloadn hx 0 rfl rfl dJ9_floorMod_7cf53_18 ?_
    exact r_iret hx hf dJ9_floorMod_7cf53_19
  · have hf := (f_ite hf).2 q2
    refine r_iloadn hx 0 rfl rfl dJ9_floorMod_7cf53_10 ?_
    refine r_ifeq (tgt := 18) hx rfl dJ9_floorMod_7cf53_11 (fun q3 => ?_) (fun q3 => ?_)
    · have hf := (f_ite hf).1 q3
      refine r_iloadn hx 0 rfl rfl dJ9_floorMod_7cf53_18 ?_
      exact r_iret hx hf dJ9_floorMod_7cf53_19
    · have hf := (f_ite hf).2 q3
      refine r_iloadn hx 0 rfl rfl dJ9_floorMod_7cf53_14 ?_
      refine r_iloadn hx 2 rfl rfl dJ9_floorMod_7cf53_15 ?_
      refine r_iadd hx dJ9_floorMod_7cf53_16 ?_
      exact r_iret hx hf dJ9_floorMod_7cf53_17
theorem dX5_closedQ_0 : decode bX5_closedQ 0 = .ok (.aload_n 0, 1) := by decide +kernel
theorem dX5_closedQ_1 : decode bX5_closedQ 1 = .ok (.getfield 23, 3) := by decide +kernel
theorem dX5_closedQ_4 : decode bX5_closedQ 4 = .ok (.ifCond .ne 5, 3) := by decide +kernel
theorem dX5_closedQ_7 : decode bX5_closedQ 7 = .ok (.iconst 0, 1) := by decide +kernel
theorem dX5_closedQ_8 : decode bX5_closedQ 8 = .ok (.ireturn, 1) := by decide +kernel
theorem dX5_closedQ_9 : decode bX5_closedQ 9 = .ok (.aload_n 0, 1) := by decide +kernel
theorem dX5_closedQ_10 : decode bX5_closedQ 10 = .ok (.getfield 23, 3) := by decide +kernel
theorem dX5_closedQ_13 : decode bX5_closedQ 13 = .ok (.ifCond .ge 19, 3) := by decide +kernel
theorem dX5_closedQ_16 : decode bX5_closedQ 16 = .ok (.aload_n 0, 1) := by decide +kernel
theorem dX5_closedQ_17 : decode bX5_closedQ 17 = .ok (.getfield 7, 3) := by decide +kernel
theorem dX5_closedQ_20 : decode bX5_closedQ 20 = .ok (.ineg, 1) := by decide +kernel
theorem dX5_closedQ_21 : decode bX5_closedQ 21 = .ok (.aload_n 0, 1) := by decide +kernel
theorem dX5_closedQ_22 : decode bX5_closedQ 22 = .ok (.getfield 23, 3) := by decide +kernel
theorem dX5_closedQ_25 : decode bX5_closedQ 25 = .ok (.ineg, 1) := by decide +kernel
theorem dX5_closedQ_26 : decode bX5_closedQ 26 = .ok (.invokestatic 45, 3) := by decide +kernel
theorem dX5_closedQ_29 : decode bX5_closedQ 29 = .ok (.goto 12, 3) := by decide +kernel
theorem dX5_closedQ_32 : decode bX5_closedQ 32 = .ok (.aload_n 0, 1) := by decide +kernel
theorem dX5_closedQ_33 : decode bX5_closedQ 33 = .ok (.getfield 7, 3) := by decide +kernel
theorem dX5_closedQ_36 : decode bX5_closedQ 36 = .ok (.aload_n 0, 1) := by decide +kernel
theorem dX5_closedQ_37 : decode bX5_closedQ 37 = .ok (.getfield 23, 3) := by decide +kernel
theorem dX5_closedQ_40 : decode bX5_closedQ 40 = .ok (.irem, 1) := by decide +kernel
theorem dX5_closedQ_41 : decode bX5_closedQ 41 = .ok (.ireturn, 1) := by decide +kernel
set_option maxRecDepth 20000 in
set_option maxHeartbeats 4000000 in
theorem cX5_closedQ {l : Launch} {k : Kx} {F : Nat} {this : Nat} {μ μ' : Mm} {r : Int32} (hk : kok k) (e_this : kex k 5 this) (hf : fX5_closedQ F this μ = some (r, μ')) : MM l k 1 yX5_closedQ bX5_closedQ 1 (some .int) [.ref (kad k 5 this)] μ (some (.int r)) μ' := by
  refine MM.of (lv := [(0, .ref (kad k 5 this))]) (plainFor_of_name (by decide)) hk (Nat.le_of_ble_eq_true rfl) rfl (fun z hl hx => ?_)
  subst hl
  have hx : Ok z k bX5_closedQ 1 "RopeDance$Square" (some .int) 1 (0, 0) := hx
  unfold fX5_closedQ at hf
  refine r_aloadn hx 0 rfl rfl dX5_closedQ_0 ?_
  refine r_getI hx FK5_0 e_this wf_X5_23 dX5_closedQ_1 ?_
  refine r_ifne (tgt := 9) hx rfl dX5_closedQ_4 (fun q1 => ?_) (fun q1 => ?_)
  · have hf := (f_ite hf).2 q1
    refine r_aloadn hx 0 rfl rfl dX5_closedQ_9 ?_
    refine r_getI hx FK5_0 e_this wf_X5_23 dX5_closedQ_10 ?_
    refine r_ifge (tgt := 32) hx rfl dX5_closedQ_13 (fun q2 => ?_) (fun q2 => ?_)
    · have hf := (f_ite hf).1 q2
      refine r_aloadn hx 0 rfl rfl dX5_closedQ_32 ?_
      refine r_getI hx FK5_1 e_this wf_X5_7 dX5_closedQ_33 ?_
      refine r_aloadn hx 0 rfl rfl dX5_closedQ_36 ?_
      refine r_getI hx FK5_0 e_this wf_X5_23 dX5_closedQ_37 ?_
      obtain ⟨q3, hf⟩ := f_nz hf
      refine r_irem hx q3 dX5_closedQ_40 ?_
      exact r_iret hx hf dX5_closedQ_41
    · have hf := (f_ite hf).2 q2
      refine r_aloadn hx 0 rfl rfl dX5_closedQ_16 ?_
      refine r_getI hx FK5_1 e_this wf_X5_7 dX5_closedQ_17 ?_
      refine r_ineg hx dX5_closedQ_20 ?_
      refine r_aloadn hx 0 rfl rfl dX5_closedQ_21 ?_
      refine r_getI hx FK5_0 e_this wf_X5_23 dX5_closedQ_22 ?_
      refine r_ineg hx dX5_closedQ_25 ?_
      obtain ⟨r6, μ5, c4, hf⟩ := f_bd2 hf
      refine r_callS hx (As := [.int (-(gi μ 5 this 1)), .int (-(gi μ 5 this 0))]) (rest := []) (st1 := [.int r6]) MK_J9_floorMod_7cf53 ws_J9_floorMod_7cf53 wm_X5_45 ⟨Nat.le_refl _, Nat.le_refl _⟩ (cJ9_floorMod_7cf53 hk c4) (Nat.le_of_ble_eq_true rfl) rfl rfl (Nat.le_of_ble_eq_true rfl) rfl dX5_closedQ_26 (fun hb7 => ?_)
      refine r_goto (tgt := 41) hx rfl dX5_closedQ_29 ?_
      exact r_iret hx hf dX5_closedQ_41
  · have hf := (f_ite hf).1 q1
    refine r_iconst hx ci_0 dX5_closedQ_7 ?_
    exact r_iret hx hf dX5_closedQ_8
theorem dX6_become_0 : decode bX6_become 0 = .ok (.aload_n 2, 1) := by decide +kernel
theorem dX6_become_1 : decode bX6_become 1 = .ok (.getfield 7, 3) := by decide +kernel
theorem dX6_become_4 : decode bX6_become 4 = .ok (.aload_n 1, 1) := by decide +kernel
theorem dX6_become_5 : decode bX6_become 5 = .ok (.getfield 7, 3) := by decide +kernel
theorem dX6_become_8 : decode bX6_become 8 = .ok (.imul, 1) := by decide +kernel
theorem dX6_become_9 : decode bX6_become 9 = .ok (.aload_n 2, 1) := by decide +kernel
theorem dX6_become_10 : decode bX6_become 10 = .ok (.getfield 16, 3) := by decide +kernel
theorem dX6_become_13 : decode bX6_become 13 = .ok (.aload_n 1, 1) := by decide +kernel
theorem dX6_become_14 : decode bX6_become 14 = .ok (.getfield 19, 3) := by decide +kernel
theorem dX6_become_17 : decode bX6_become 17 = .ok (.imul, 1) := by decide +kernel
theorem dX6_become_18 : decode bX6_become 18 = .ok (.iadd, 1) := by decide +kernel
theorem dX6_become_19 : decode bX6_become 19 = .ok (.istore_n 3, 1) := by decide +kernel
theorem dX6_become_20 : decode bX6_become 20 = .ok (.aload_n 2, 1) := by decide +kernel
theorem dX6_become_21 : decode bX6_become 21 = .ok (.getfield 7, 3) := by decide +kernel
theorem dX6_become_24 : decode bX6_become 24 = .ok (.aload_n 1, 1) := by decide +kernel
theorem dX6_become_25 : decode bX6_become 25 = .ok (.getfield 16, 3) := by decide +kernel
theorem dX6_become_28 : decode bX6_become 28 = .ok (.imul, 1) := by decide +kernel
theorem dX6_become_29 : decode bX6_become 29 = .ok (.aload_n 2, 1) := by decide +kernel
theorem dX6_become_30 : decode bX6_become 30 = .ok (.getfield 16, 3) := by decide +kernel
theorem dX6_become_33 : decode bX6_become 33 = .ok (.aload_n 1, 1) := by decide +kernel
theorem dX6_become_34 : decode bX6_become 34 = .ok (.getfield 13, 3) := by decide +kernel
theorem dX6_become_37 : decode bX6_become 37 = .ok (.imul, 1) := by decide +kernel
theorem dX6_become_38 : decode bX6_become 38 = .ok (.iadd, 1) := by decide +kernel
theorem dX6_become_39 : decode bX6_become 39 = .ok (.istore 4, 2) := by decide +kernel
theorem dX6_become_41 : decode bX6_become 41 = .ok (.aload_n 2, 1) := by decide +kernel
theorem dX6_become_42 : decode bX6_become 42 = .ok (.getfield 19, 3) := by decide +kernel
theorem dX6_become_45 : decode bX6_become 45 = .ok (.aload_n 1, 1) := by decide +kernel
theorem dX6_become_46 : decode bX6_become 46 = .ok (.getfield 7, 3) := by decide +kernel
theorem dX6_become_49 : decode bX6_become 49 = .ok (.imul, 1) := by decide +kernel
theorem dX6_become_50 : decode bX6_become 50 = .ok (.aload_n 2, 1) := by decide +kernel
theorem dX6_become_51 : decode bX6_become 51 = .ok (.getfield 13, 3) := by decide +kernel
theorem dX6_become_54 : decode bX6_become 54 = .ok (.aload_n 1, 1) := by decide +kernel
theorem dX6_become_55 : decode bX6_become 55 = .ok (.getfield 19, 3) := by decide +kernel
theorem dX6_become_58 : decode bX6_become 58 = .ok (.imul, 1) := by decide +kernel
theorem dX6_become_59 : decode bX6_become 59 = .ok (.iadd, 1) := by decide +kernel
theorem dX6_become_60 : decode bX6_become 60 = .ok (.istore 5, 2) := by decide +kernel
theorem dX6_become_62 : decode bX6_become 62 = .ok (.aload_n 2, 1) := by decide +kernel
theorem dX6_become_63 : decode bX6_become 63 = .ok (.getfield 19, 3) := by decide +kernel
theorem dX6_become_66 : decode bX6_become 66 = .ok (.aload_n 1, 1) := by decide +kernel
theorem dX6_become_67 : decode bX6_become 67 = .ok (.getfield 16, 3) := by decide +kernel
theorem dX6_become_70 : decode bX6_become 70 = .ok (.imul, 1) := by decide +kernel
theorem dX6_become_71 : decode bX6_become 71 = .ok (.aload_n 2, 1) := by decide +kernel
theorem dX6_become_72 : decode bX6_become 72 = .ok (.getfield 13, 3) := by decide +kernel
theorem dX6_become_75 : decode bX6_become 75 = .ok (.aload_n 1, 1) := by decide +kernel
theorem dX6_become_76 : decode bX6_become 76 = .ok (.getfield 13, 3) := by decide +kernel
theorem dX6_become_79 : decode bX6_become 79 = .ok (.imul, 1) := by decide +kernel
theorem dX6_become_80 : decode bX6_become 80 = .ok (.iadd, 1) := by decide +kernel
theorem dX6_become_81 : decode bX6_become 81 = .ok (.istore 6, 2) := by decide +kernel
theorem dX6_become_83 : decode bX6_become 83 = .ok (.aload_n 0, 1) := by decide +kernel
theorem dX6_become_84 : decode bX6_become 84 = .ok (.iload_n 3, 1) := by decide +kernel
theorem dX6_become_85 : decode bX6_become 85 = .ok (.putfield 7, 3) := by decide +kernel
theorem dX6_become_88 : decode bX6_become 88 = .ok (.aload_n 0, 1) := by decide +kernel
theorem dX6_become_89 : decode bX6_become 89 = .ok (.iload 4, 2) := by decide +kernel
theorem dX6_become_91 : decode bX6_become 91 = .ok (.putfield 16, 3) := by decide +kernel
theorem dX6_become_94 : decode bX6_become 94 = .ok (.aload_n 0, 1) := by decide +kernel
theorem dX6_become_95 : decode bX6_become 95 = .ok (.iload 5, 2) := by decide +kernel
theorem dX6_become_97 : decode bX6_become 97 = .ok (.putfield 19, 3) := by decide +kernel
theorem dX6_become_100 : decode bX6_become 100 = .ok (.aload_n 0, 1) := by decide +kernel
theorem dX6_become_101 : decode bX6_become 101 = .ok (.iload 6, 2) := by decide +kernel
theorem dX6_become_103 : decode bX6_become 103 = .ok (.putfield 13, 3) := by decide +kernel
theorem dX6_become_106 : decode bX6_become 106 = .ok (.return_, 1) := by decide +kernel
set_option maxRecDepth 20000 in
set_option maxHeartbeats 4000000 in
theorem cX6_become {l : Launch} {k : Kx} {F : Nat} {this : Nat} {a1 : Nat} {a2 : Nat} {μ μ' : Mm} (hk : kok k) (e_this : kex k 6 this) (e_a1 : kex k 6 a1) (e_a2 : kex k 6 a2) (hf : fX6_become F this a1 a2 μ = some μ') : MM l k 0 yX6_become bX6_become 7 none [.ref (kad k 6 this), .ref (kad k 6 a1), .ref (kad k 6 a2)] μ none μ' := by
  refine MM.of (lv := [(0, .ref (kad k 6 this)), (1, .ref (kad k 6 a1)), (2, .ref (kad k 6 a2))]) (plainFor_of_name (by decide)) hk (Nat.le_of_ble_eq_true rfl) rfl (fun z hl hx => ?_)
  subst hl
  have hx : Ok z k bX6_become 7 "RopeDance$Table" none 0 (0, 0) := hx
  unfold fX6_become at hf
  refine r_aloadn hx 2 rfl rfl dX6_become_0 ?_
  refine r_getI hx FK6_0 e_a2 wf_X6_7 dX6_become_1 ?_
  refine r_aloadn hx 1 rfl rfl dX6_become_4 ?_
  refine r_getI hx FK6_0 e_a1 wf_X6_7 dX6_become_5 ?_
  refine r_imul hx dX6_become_8 ?_
  refine r_aloadn hx 2 rfl rfl dX6_become_9 ?_
  refine r_getI hx FK6_1 e_a2 wf_X6_16 dX6_become_10 ?_
  refine r_aloadn hx 1 rfl rfl dX6_become_13 ?_
  refine r_getI hx FK6_2 e_a1 wf_X6_19 dX6_become_14 ?_
  refine r_imul hx dX6_become_17 ?_
  refine r_iadd hx dX6_become_18 ?_
  refine r_istoren (lv' := [(3, .int (((gi μ 6 a2 0) * (gi μ 6 a1 0)) + ((gi μ 6 a2 1) * (gi μ 6 a1 2)))), (0, .ref (kad k 6 this)), (1, .ref (kad k 6 a1)), (2, .ref (kad k 6 a2))]) hx rfl (Nat.le_of_ble_eq_true rfl) rfl dX6_become_19 ?_
  refine r_aloadn hx 3 rfl rfl dX6_become_20 ?_
  refine r_getI hx FK6_0 e_a2 wf_X6_7 dX6_become_21 ?_
  refine r_aloadn hx 2 rfl rfl dX6_become_24 ?_
  refine r_getI hx FK6_1 e_a1 wf_X6_16 dX6_become_25 ?_
  refine r_imul hx dX6_become_28 ?_
  refine r_aloadn hx 3 rfl rfl dX6_become_29 ?_
  refine r_getI hx FK6_1 e_a2 wf_X6_16 dX6_become_30 ?_
  refine r_aloadn hx 2 rfl rfl dX6_become_33 ?_
  refine r_getI hx FK6_3 e_a1 wf_X6_13 dX6_become_34 ?_
  refine r_imul hx dX6_become_37 ?_
  refine r_iadd hx dX6_become_38 ?_
  refine r_istore (lv' := [(4, .int (((gi μ 6 a2 0) * (gi μ 6 a1 1)) + ((gi μ 6 a2 1) * (gi μ 6 a1 3)))), (3, .int (((gi μ 6 a2 0) * (gi μ 6 a1 0)) + ((gi μ 6 a2 1) * (gi μ 6 a1 2)))), (0, .ref (kad k 6 this)), (1, .ref (kad k 6 a1)), (2, .ref (kad k 6 a2))]) hx (Nat.le_of_ble_eq_true rfl) rfl dX6_become_39 ?_
  refine r_aloadn hx 4 rfl rfl dX6_become_41 ?_
  refine r_getI hx FK6_2 e_a2 wf_X6_19 dX6_become_42 ?_
  refine r_aloadn hx 3 rfl rfl dX6_become_45 ?_
  refine r_getI hx FK6_0 e_a1 wf_X6_7 dX6_become_46 ?_
  refine r_imul hx dX6_become_49 ?_
  refine r_aloadn hx 4 rfl rfl dX6_become_50 ?_
  refine r_getI hx FK6_3 e_a2 wf_X6_13 dX6_become_51 ?_
  refine r_aloadn hx 3 rfl rfl dX6_become_54 ?_
  refine r_getI hx FK6_2 e_a1 wf_X6_19 dX6_become_55 ?_
  refine r_imul hx dX6_become_58 ?_
  refine r_iadd hx dX6_become_59 ?_
  refine r_istore (lv' := [(5, .int (((gi μ 6 a2 2) * (gi μ 6 a1 0)) + ((gi μ 6 a2 3) * (gi μ 6 a1 2)))), (4, .int (((gi μ 6 a2 0) * (gi μ 6 a1 1)) + ((gi μ 6 a2 1) * (gi μ 6 a1 3)))), (3, .int (((gi μ 6 a2 0) * (gi μ 6 a1 0)) + ((gi μ 6 a2 1) * (gi μ 6 a1 2)))), (0, .ref (kad k 6 this)), (1, .ref (kad k 6 a1)), (2, .ref (kad k 6 a2))]) hx (Nat.le_of_ble_eq_true rfl) rfl dX6_become_60 ?_
  refine r_aloadn hx 5 rfl rfl dX6_become_62 ?_
  refine r_getI hx FK6_2 e_a2 wf_X6_19 dX6_become_63 ?_
  refine r_aloadn hx 4 rfl rfl dX6_become_66 ?_
  refine r_getI hx FK6_1 e_a1 wf_X6_16 dX6_become_67 ?_
  refine r_imul hx dX6_become_70 ?_
  refine r_aloadn hx 5 rfl rfl dX6_become_71 ?_
  refine r_getI hx FK6_3 e_a2 wf_X6_13 dX6_become_72 ?_
  refine r_aloadn hx 4 rfl rfl dX6_become_75 ?_
  refine r_getI hx FK6_3 e_a1 wf_X6_13 dX6_become_76 ?_
  refine r_imul hx dX6_become_79 ?_
  refine r_iadd hx dX6_become_80 ?_
  refine r_istore (lv' := [(6, .int (((gi μ 6 a2 2) * (gi μ 6 a1 1)) + ((gi μ 6 a2 3) * (gi μ 6 a1 3)))), (5, .int (((gi μ 6 a2 2) * (gi μ 6 a1 0)) + ((gi μ 6 a2 3) * (gi μ 6 a1 2)))), (4, .int (((gi μ 6 a2 0) * (gi μ 6 a1 1)) + ((gi μ 6 a2 1) * (gi μ 6 a1 3)))), (3, .int (((gi μ 6 a2 0) * (gi μ 6 a1 0)) + ((gi μ 6 a2 1) * (gi μ 6 a1 2)))), (0, .ref (kad k 6 this)), (1, .ref (kad k 6 a1)), (2, .ref (kad k 6 a2))]) hx (Nat.le_of_ble_eq_true rfl) rfl dX6_become_81 ?_
  refine r_aloadn hx 4 rfl rfl dX6_become_83 ?_
  refine r_iloadn hx 3 rfl rfl dX6_become_84 ?_
  refine r_putI (ty := .int) hx FK6_0 (fun T N h => by cases h; rfl) e_this wf_X6_7 (by decide +kernel) rfl rfl dX6_become_85 ?_
  refine r_aloadn hx 4 rfl rfl dX6_become_88 ?_
  refine r_iload hx 2 rfl dX6_become_89 ?_
  refine r_putI (ty := .int) hx FK6_1 (fun T N h => by cases h; rfl) e_this wf_X6_16 (by decide +kernel) rfl rfl dX6_become_91 ?_
  refine r_aloadn hx 4 rfl rfl dX6_become_94 ?_
  refine r_iload hx 1 rfl dX6_become_95 ?_
  refine r_putI (ty := .int) hx FK6_2 (fun T N h => by cases h; rfl) e_this wf_X6_19 (by decide +kernel) rfl rfl dX6_become_97 ?_
  refine r_aloadn hx 4 rfl rfl dX6_become_100 ?_
  refine r_iload hx 0 rfl dX6_become_101 ?_
  refine r_putI (ty := .int) hx FK6_3 (fun T N h => by cases h; rfl) e_this wf_X6_13 (by decide +kernel) rfl rfl dX6_become_103 ?_
  exact r_vret hx hf dX6_become_106
theorem dX6_restsOf_0 : decode bX6_restsOf 0 = .ok (.iload_n 2, 1) := by decide +kernel
theorem dX6_restsOf_1 : decode bX6_restsOf 1 = .ok (.ifCond .le 51, 3) := by decide +kernel
theorem dX6_restsOf_4 : decode bX6_restsOf 4 = .ok (.aload_n 0, 1) := by decide +kernel
theorem dX6_restsOf_5 : decode bX6_restsOf 5 = .ok (.aload_n 1, 1) := by decide +kernel
theorem dX6_restsOf_6 : decode bX6_restsOf 6 = .ok (.getfield 7, 3) := by decide +kernel
theorem dX6_restsOf_9 : decode bX6_restsOf 9 = .ok (.iload_n 2, 1) := by decide +kernel
theorem dX6_restsOf_10 : decode bX6_restsOf 10 = .ok (.invokestatic 24, 3) := by decide +kernel
theorem dX6_restsOf_13 : decode bX6_restsOf 13 = .ok (.putfield 7, 3) := by decide +kernel
theorem dX6_restsOf_16 : decode bX6_restsOf 16 = .ok (.aload_n 0, 1) := by decide +kernel
theorem dX6_restsOf_17 : decode bX6_restsOf 17 = .ok (.aload_n 1, 1) := by decide +kernel
theorem dX6_restsOf_18 : decode bX6_restsOf 18 = .ok (.getfield 16, 3) := by decide +kernel
theorem dX6_restsOf_21 : decode bX6_restsOf 21 = .ok (.iload_n 2, 1) := by decide +kernel
theorem dX6_restsOf_22 : decode bX6_restsOf 22 = .ok (.invokestatic 24, 3) := by decide +kernel
theorem dX6_restsOf_25 : decode bX6_restsOf 25 = .ok (.putfield 16, 3) := by decide +kernel
theorem dX6_restsOf_28 : decode bX6_restsOf 28 = .ok (.aload_n 0, 1) := by decide +kernel
theorem dX6_restsOf_29 : decode bX6_restsOf 29 = .ok (.aload_n 1, 1) := by decide +kernel
theorem dX6_restsOf_30 : decode bX6_restsOf 30 = .ok (.getfield 19, 3) := by decide +kernel
theorem dX6_restsOf_33 : decode bX6_restsOf 33 = .ok (.iload_n 2, 1) := by decide +kernel
theorem dX6_restsOf_34 : decode bX6_restsOf 34 = .ok (.invokestatic 24, 3) := by decide +kernel
theorem dX6_restsOf_37 : decode bX6_restsOf 37 = .ok (.putfield 19, 3) := by decide +kernel
theorem dX6_restsOf_40 : decode bX6_restsOf 40 = .ok (.aload_n 0, 1) := by decide +kernel
theorem dX6_restsOf_41 : decode bX6_restsOf 41 = .ok (.aload_n 1, 1) := by decide +kernel
theorem dX6_restsOf_42 : decode bX6_restsOf 42 = .ok (.getfield 13, 3) := by decide +kernel
theorem dX6_restsOf_45 : decode bX6_restsOf 45 = .ok (.iload_n 2, 1) := by decide +kernel
theorem dX6_restsOf_46 : decode bX6_restsOf 46 = .ok (.invokestatic 24, 3) := by decide +kernel
theorem dX6_restsOf_49 : decode bX6_restsOf 49 = .ok (.putfield 13, 3) := by decide +kernel
theorem dX6_restsOf_52 : decode bX6_restsOf 52 = .ok (.return_, 1) := by decide +kernel
set_option maxRecDepth 20000 in
set_option maxHeartbeats 4000000 in
theorem cX6_restsOf {l : Launch} {k : Kx} {F : Nat} {this : Nat} {a1 : Nat} {a2 : Int32} {μ μ' : Mm} (hk : kok k) (e_this : kex k 6 this) (e_a1 : kex k 6 a1) (hf : fX6_restsOf F this a1 a2 μ = some μ') : MM l k 1 yX6_restsOf bX6_restsOf 3 none [.ref (kad k 6 this), .ref (kad k 6 a1), .int a2] μ none μ' := by
  refine MM.of (lv := [(0, .ref (kad k 6 this)), (1, .ref (kad k 6 a1)), (2, .int a2)]) (plainFor_of_name (by decide)) hk (Nat.le_of_ble_eq_true rfl) rfl (fun z hl hx => ?_)
  subst hl
  have hx : Ok z k bX6_restsOf 3 "RopeDance$Table" none 1 (0, 0) := hx
  unfold fX6_restsOf at hf
  refine r_iloadn hx 2 rfl rfl dX6_restsOf_0 ?_
  refine r_ifle (tgt := 52) hx rfl dX6_restsOf_1 (fun q1 => ?_) (fun q1 => ?_)
  · have hf := (f_ite hf).1 q1
    exact r_vret hx hf dX6_restsOf_52
  · have hf := (f_ite hf).2 q1
    refine r_aloadn hx 0 rfl rfl dX6_restsOf_4 ?_
    refine r_aloadn hx 1 rfl rfl dX6_restsOf_5 ?_
    refine r_getI hx FK6_0 e_a1 wf_X6_7 dX6_restsOf_6 ?_
    refine r_iloadn hx 2 rfl rfl dX6_restsOf_9 ?_
    obtain ⟨r4, μ3, c2, hf⟩ := f_bd2 hf
    refine r_callS hx (As := [.int (gi μ 6 a1 0), .int a2]) (rest := [.ref (kad k 6 this)]) (st1 := [.int r4, .ref (kad k 6 this)]) MK_J9_floorMod_7cf53 ws_J9_floorMod_7cf53 wm_X6_24 ⟨Nat.le_refl _, Nat.le_refl _⟩ (cJ9_floorMod_7cf53 hk c2) (Nat.le_of_ble_eq_true rfl) rfl rfl (Nat.le_of_ble_eq_true rfl) rfl dX6_restsOf_10 (fun hb5 => ?_)
    refine r_putI (ty := .int) hx FK6_0 (fun T N h => by cases h; rfl) e_this wf_X6_7 (by decide +kernel) rfl rfl dX6_restsOf_13 ?_
    refine r_aloadn hx 0 rfl rfl dX6_restsOf_16 ?_
    refine r_aloadn hx 1 rfl rfl dX6_restsOf_17 ?_
    refine r_getI hx FK6_1 e_a1 wf_X6_16 dX6_restsOf_18 ?_
    refine r_iloadn hx 2 rfl rfl dX6_restsOf_21 ?_
    obtain ⟨r8, μ7, c6, hf⟩ := f_bd2 hf
    refine r_callS hx (As := [.int (gi (si μ3 6 this 0 r4) 6 a1 1), .int a2]) (rest := [.ref (kad k 6 this)]) (st1 := [.int r8, .ref (kad k 6 this)]) MK_J9_floorMod_7cf53 ws_J9_floorMod_7cf53 wm_X6_24 ⟨Nat.le_refl _, Nat.le_refl _⟩ (cJ9_floorMod_7cf53 hk c6) (Nat.le_of_ble_eq_true rfl) rfl rfl (Nat.le_of_ble_eq_true rfl) rfl dX6_restsOf_22 (fun hb9 => ?_)
    refine r_putI (ty := .int) hx FK6_1 (fun T N h => by cases h; rfl) e_this wf_X6_16 (by decide +kernel) rfl rfl dX6_restsOf_25 ?_
    refine r_aloadn hx 0 rfl rfl dX6_restsOf_28 ?_
    refine r_aloadn hx 1 rfl rfl dX6_restsOf_29 ?_
    refine r_getI hx FK6_2 e_a1 wf_X6_19 dX6_restsOf_30 ?_
    refine r_iloadn hx 2 rfl rfl dX6_restsOf_33 ?_
    obtain ⟨r12, μ11, c10, hf⟩ := f_bd2 hf
    refine r_callS hx (As := [.int (gi (si μ7 6 this 1 r8) 6 a1 2), .int a2]) (rest := [.ref (kad k 6 this)]) (st1 := [.int r12, .ref (kad k 6 this)]) MK_J9_floorMod_7cf53 ws_J9_floorMod_7cf53 wm_X6_24 ⟨Nat.le_refl _, Nat.le_refl _⟩ (cJ9_floorMod_7cf53 hk c10) (Nat.le_of_ble_eq_true rfl) rfl rfl (Nat.le_of_ble_eq_true rfl) rfl dX6_restsOf_34 (fun hb13 => ?_)
    refine r_putI (ty := .int) hx FK6_2 (fun T N h => by cases h; rfl) e_this wf_X6_19 (by decide +kernel) rfl rfl dX6_restsOf_37 ?_
    refine r_aloadn hx 0 rfl rfl dX6_restsOf_40 ?_
    refine r_aloadn hx 1 rfl rfl dX6_restsOf_41 ?_
    refine r_getI hx FK6_3 e_a1 wf_X6_13 dX6_restsOf_42 ?_
    refine r_iloadn hx 2 rfl rfl dX6_restsOf_45 ?_
    obtain ⟨r16, μ15, c14, hf⟩ := f_bd2 hf
    refine r_callS hx (As := [.int (gi (si μ11 6 this 2 r12) 6 a1 3), .int a2]) (rest := [.ref (kad k 6 this)]) (st1 := [.int r16, .ref (kad k 6 this)]) MK_J9_floorMod_7cf53 ws_J9_floorMod_7cf53 wm_X6_24 ⟨Nat.le_refl _, Nat.le_refl _⟩ (cJ9_floorMod_7cf53 hk c14) (Nat.le_of_ble_eq_true rfl) rfl rfl (Nat.le_of_ble_eq_true rfl) rfl dX6_restsOf_46 (fun hb17 => ?_)
    refine r_putI (ty := .int) hx FK6_3 (fun T N h => by cases h; rfl) e_this wf_X6_13 (by decide +kernel) rfl rfl dX6_restsOf_49 ?_
    exact r_vret hx hf dX6_restsOf_52
theorem dX6_part_0 : decode bX6_part 0 = .ok (.iload_n 1, 1) := by decide +kernel
theorem dX6_part_1 : decode bX6_part 1 = .ok (.tableswitch 42 0 2 #[27, 32, 37], 27) := by decide +kernel
theorem dX6_part_28 : decode bX6_part 28 = .ok (.aload_n 0, 1) := by decide +kernel
theorem dX6_part_29 : decode bX6_part 29 = .ok (.getfield 7, 3) := by decide +kernel
theorem dX6_part_32 : decode bX6_part 32 = .ok (.ireturn, 1) := by decide +kernel
theorem dX6_part_33 : decode bX6_part 33 = .ok (.aload_n 0, 1) := by decide +kernel
theorem dX6_part_34 : decode bX6_part 34 = .ok (.getfield 16, 3) := by decide +kernel
theorem dX6_part_37 : decode bX6_part 37 = .ok (.ireturn, 1) := by decide +kernel
theorem dX6_part_38 : decode bX6_part 38 = .ok (.aload_n 0, 1) := by decide +kernel
theorem dX6_part_39 : decode bX6_part 39 = .ok (.getfield 19, 3) := by decide +kernel
theorem dX6_part_42 : decode bX6_part 42 = .ok (.ireturn, 1) := by decide +kernel
theorem dX6_part_43 : decode bX6_part 43 = .ok (.aload_n 0, 1) := by decide +kernel
theorem dX6_part_44 : decode bX6_part 44 = .ok (.getfield 13, 3) := by decide +kernel
theorem dX6_part_47 : decode bX6_part 47 = .ok (.ireturn, 1) := by decide +kernel
set_option maxRecDepth 20000 in
set_option maxHeartbeats 4000000 in
theorem cX6_part {l : Launch} {k : Kx} {F : Nat} {this : Nat} {a1 : Int32} {μ μ' : Mm} {r : Int32} (hk : kok k) (e_this : kex k 6 this) (hf : fX6_part F this a1 μ = some (r, μ')) : MM l k 0 yX6_part bX6_part 2 (some .int) [.ref (kad k 6 this), .int a1] μ (some (.int r)) μ' := by
  refine MM.of (lv := [(0, .ref (kad k 6 this)), (1, .int a1)]) (plainFor_of_name (by decide)) hk (Nat.le_of_ble_eq_true rfl) rfl (fun z hl hx => ?_)
  subst hl
  have hx : Ok z k bX6_part 2 "RopeDance$Table" (some .int) 0 (0, 0) := hx
  unfold fX6_part at hf
  refine r_iloadn hx 1 rfl rfl dX6_part_0 ?_
  by_cases q1 : a1 = 0
  · have hf := (f_ite hf).1 q1
    refine r_tableIn (off := 27) (tgt := 28) hx (by rw [q1]; decide) (by rw [q1]; decide) (by rw [q1]; rfl) rfl dX6_part_1 ?_
    refine r_aloadn hx 0 rfl rfl dX6_part_28 ?_
    refine r_getI hx FK6_0 e_this wf_X6_7 dX6_part_29 ?_
    exact r_iret hx hf dX6_part_32
  · have hf := (f_ite hf).2 q1
    by_cases q2 : a1 = 1
    · have hf := (f_ite hf).1 q2
      refine r_tableIn (off := 32) (tgt := 33) hx (by rw [q2]; decide) (by rw [q2]; decide) (by rw [q2]; rfl) rfl dX6_part_1 ?_
      refine r_aloadn hx 0 rfl rfl dX6_part_33 ?_
      refine r_getI hx FK6_1 e_this wf_X6_16 dX6_part_34 ?_
      exact r_iret hx hf dX6_part_37
    · have hf := (f_ite hf).2 q2
      by_cases q3 : a1 = 2
      · have hf := (f_ite hf).1 q3
        refine r_tableIn (off := 37) (tgt := 38) hx (by rw [q3]; decide) (by rw [q3]; decide) (by rw [q3]; rfl) rfl dX6_part_1 ?_
        refine r_aloadn hx 0 rfl rfl dX6_part_38 ?_
        refine r_getI hx FK6_2 e_this wf_X6_19 dX6_part_39 ?_
        exact r_iret hx hf dX6_part_42
      · have hf := (f_ite hf).2 q3
        have tq1 := lv_neT (a := 0) q1 (by decide)
        have tq2 := lv_neT (a := 1) q2 (by decide)
        have tq3 := lv_neT (a := 2) q3 (by decide)
        refine r_tableOut (tgt := 43) hx (by omega) rfl dX6_part_1 ?_
        refine r_aloadn hx 0 rfl rfl dX6_part_43 ?_
        refine r_getI hx FK6_3 e_this wf_X6_13 dX6_part_44 ?_
        exact r_iret hx hf dX6_part_47
theorem dX6_trace_0 : decode bX6_trace 0 = .ok (.aload_n 0, 1) := by decide +kernel
theorem dX6_trace_1 : decode bX6_trace 1 = .ok (.getfield 7, 3) := by decide +kernel
theorem dX6_trace_4 : decode bX6_trace 4 = .ok (.aload_n 0, 1) := by decide +kernel
theorem dX6_trace_5 : decode bX6_trace 5 = .ok (.getfield 13, 3) := by decide +kernel
theorem dX6_trace_8 : decode bX6_trace 8 = .ok (.iadd, 1) := by decide +kernel
theorem dX6_trace_9 : decode bX6_trace 9 = .ok (.ireturn, 1) := by decide +kernel
set_option maxRecDepth 20000 in
set_option maxHeartbeats 4000000 in
theorem cX6_trace {l : Launch} {k : Kx} {F : Nat} {this : Nat} {μ μ' : Mm} {r : Int32} (hk : kok k) (e_this : kex k 6 this) (hf : fX6_trace F this μ = some (r, μ')) : MM l k 0 yX6_trace bX6_trace 1 (some .int) [.ref (kad k 6 this)] μ (some (.int r)) μ' := by
  refine MM.of (lv := [(0, .ref (kad k 6 this))]) (plainFor_of_name (by decide)) hk (Nat.le_of_ble_eq_true rfl) rfl (fun z hl hx => ?_)
  subst hl
  have hx : Ok z k bX6_trace 1 "RopeDance$Table" (some .int) 0 (0, 0) := hx
  unfold fX6_trace at hf
  refine r_aloadn hx 0 rfl rfl dX6_trace_0 ?_
  refine r_getI hx FK6_0 e_this wf_X6_7 dX6_trace_1 ?_
  refine r_aloadn hx 0 rfl rfl dX6_trace_4 ?_
  refine r_getI hx FK6_3 e_this wf_X6_13 dX6_trace_5 ?_
  refine r_iadd hx dX6_trace_8 ?_
  exact r_iret hx hf dX6_trace_9
theorem dX6_sign_0 : decode bX6_sign 0 = .ok (.aload_n 0, 1) := by decide +kernel
theorem dX6_sign_1 : decode bX6_sign 1 = .ok (.getfield 7, 3) := by decide +kernel
theorem dX6_sign_4 : decode bX6_sign 4 = .ok (.ifCond .gt 17, 3) := by decide +kernel
theorem dX6_sign_7 : decode bX6_sign 7 = .ok (.aload_n 0, 1) := by decide +kernel
theorem dX6_sign_8 : decode bX6_sign 8 = .ok (.getfield 7, 3) := by decide +kernel
theorem dX6_sign_11 : decode bX6_sign 11 = .ok (.ifCond .ne 14, 3) := by decide +kernel
theorem dX6_sign_14 : decode bX6_sign 14 = .ok (.aload_n 0, 1) := by decide +kernel
theorem dX6_sign_15 : decode bX6_sign 15 = .ok (.getfield 16, 3) := by decide +kernel
theorem dX6_sign_18 : decode bX6_sign 18 = .ok (.ifCond .le 7, 3) := by decide +kernel
theorem dX6_sign_21 : decode bX6_sign 21 = .ok (.iconst 1, 1) := by decide +kernel
theorem dX6_sign_22 : decode bX6_sign 22 = .ok (.goto 4, 3) := by decide +kernel
theorem dX6_sign_25 : decode bX6_sign 25 = .ok (.iconst (-1), 1) := by decide +kernel
theorem dX6_sign_26 : decode bX6_sign 26 = .ok (.ireturn, 1) := by decide +kernel
set_option maxRecDepth 20000 in
set_option maxHeartbeats 4000000 in
theorem cX6_sign {l : Launch} {k : Kx} {F : Nat} {this : Nat} {μ μ' : Mm} {r : Int32} (hk : kok k) (e_this : kex k 6 this) (hf : fX6_sign F this μ = some (r, μ')) : MM l k 0 yX6_sign bX6_sign 1 (some .int) [.ref (kad k 6 this)] μ (some (.int r)) μ' := by
  refine MM.of (lv := [(0, .ref (kad k 6 this))]) (plainFor_of_name (by decide)) hk (Nat.le_of_ble_eq_true rfl) rfl (fun z hl hx => ?_)
  subst hl
  have hx : Ok z k bX6_sign 1 "RopeDance$Table" (some .int) 0 (0, 0) := hx
  have L21 : ∀ (μ : Mm), fX6_sign_L21 F  μ = some (r, μ') → Gw z k 1 (k, (0, 0), (some .int), (some (.int r)), μ') (0, 0) 21 μ [] [] := by
    intro  μ hf
    unfold fX6_sign_L21 at hf
    refine r_iconst hx ci_1 dX6_sign_21 ?_
    refine r_goto (tgt := 26) hx rfl dX6_sign_22 ?_
    exact r_iret hx hf dX6_sign_26
  unfold fX6_sign at hf
  refine r_aloadn hx 0 rfl rfl dX6_sign_0 ?_
  refine r_getI hx FK6_0 e_this wf_X6_7 dX6_sign_1 ?_
  refine r_ifgt (tgt := 21) hx rfl dX6_sign_4 (fun q1 => ?_) (fun q1 => ?_)
  · have hf := (f_ite hf).1 q1
    refine r_sub [] rfl ?_
    exact L21   μ hf
  · have hf := (f_ite hf).2 q1
    refine r_aloadn hx 0 rfl rfl dX6_sign_7 ?_
    refine r_getI hx FK6_0 e_this wf_X6_7 dX6_sign_8 ?_
    refine r_ifne (tgt := 25) hx rfl dX6_sign_11 (fun q2 => ?_) (fun q2 => ?_)
    · have hf := (f_ite hf).2 q2
      refine r_iconst hx ci_m1 dX6_sign_25 ?_
      exact r_iret hx hf dX6_sign_26
    · have hf := (f_ite hf).1 q2
      refine r_aloadn hx 0 rfl rfl dX6_sign_14 ?_
      refine r_getI hx FK6_1 e_this wf_X6_16 dX6_sign_15 ?_
      refine r_ifle (tgt := 25) hx rfl dX6_sign_18 (fun q3 => ?_) (fun q3 => ?_)
      · have hf := (f_ite hf).1 q3
        refine r_iconst hx ci_m1 dX6_sign_25 ?_
        exact r_iret hx hf dX6_sign_26
      · have hf := (f_ite hf).2 q3
        refine r_sub [] rfl ?_
        exact L21   μ hf
theorem dX6_isNothing_0 : decode bX6_isNothing 0 = .ok (.aload_n 0, 1) := by decide +kernel
theorem dX6_isNothing_1 : decode bX6_isNothing 1 = .ok (.getfield 16, 3) := by decide +kernel
theorem dX6_isNothing_4 : decode bX6_isNothing 4 = .ok (.ifCond .ne 25, 3) := by decide +kernel
theorem dX6_isNothing_7 : decode bX6_isNothing 7 = .ok (.aload_n 0, 1) := by decide +kernel
theorem dX6_isNothing_8 : decode bX6_isNothing 8 = .ok (.getfield 19, 3) := by decide +kernel
theorem dX6_isNothing_11 : decode bX6_isNothing 11 = .ok (.ifCond .ne 18, 3) := by decide +kernel
theorem dX6_isNothing_14 : decode bX6_isNothing 14 = .ok (.aload_n 0, 1) := by decide +kernel
theorem dX6_isNothing_15 : decode bX6_isNothing 15 = .ok (.getfield 7, 3) := by decide +kernel
theorem dX6_isNothing_18 : decode bX6_isNothing 18 = .ok (.aload_n 0, 1) := by decide +kernel
theorem dX6_isNothing_19 : decode bX6_isNothing 19 = .ok (.getfield 13, 3) := by decide +kernel
theorem dX6_isNothing_22 : decode bX6_isNothing 22 = .ok (.if_icmp .ne 7, 3) := by decide +kernel
theorem dX6_isNothing_25 : decode bX6_isNothing 25 = .ok (.iconst 1, 1) := by decide +kernel
theorem dX6_isNothing_26 : decode bX6_isNothing 26 = .ok (.goto 4, 3) := by decide +kernel
theorem dX6_isNothing_29 : decode bX6_isNothing 29 = .ok (.iconst 0, 1) := by decide +kernel
theorem dX6_isNothing_30 : decode bX6_isNothing 30 = .ok (.ireturn, 1) := by decide +kernel
set_option maxRecDepth 20000 in
set_option maxHeartbeats 4000000 in
theorem cX6_isNothing {l : Launch} {k : Kx} {F : Nat} {this : Nat} {μ μ' : Mm} {r : Int32} (hk : kok k) (e_this : kex k 6 this) (hf : fX6_isNothing F this μ = some (r, μ')) : MM l k 0 yX6_isNothing bX6_isNothing 1 (some .boolean) [.ref (kad k 6 this)] μ (some (.int r)) μ' := by
  refine MM.of (lv := [(0, .ref (kad k 6 this))]) (plainFor_of_name (by decide)) hk (Nat.le_of_ble_eq_true rfl) rfl (fun z hl hx => ?_)
  subst hl
  have hx : Ok z k bX6_isNothing 1 "RopeDance$Table" (some .boolean) 0 (0, 0) := hx
  unfold fX6_isNothing at hf
  refine r_aloadn hx 0 rfl rfl dX6_isNothing_0 ?_
  refine r_getI hx FK6_1 e_this wf_X6_16 dX6_isNothing_1 ?_
  refine r_ifne (tgt := 29) hx rfl dX6_isNothing_4 (fun q1 => ?_) (fun q1 => ?_)
  · have hf := (f_ite hf).2 q1
    refine r_iconst hx ci_0 dX6_isNothing_29 ?_
    exact r_zret hx hf rfl dX6_isNothing_30
  · have hf := (f_ite hf).1 q1
    refine r_aloadn hx 0 rfl rfl dX6_isNothing_7 ?_
    refine r_getI hx FK6_2 e_this wf_X6_19 dX6_isNothing_8 ?_
    refine r_ifne (tgt := 29) hx rfl dX6_isNothing_11 (fun q2 => ?_) (fun q2 => ?_)
    · have hf := (f_ite hf).2 q2
      refine r_iconst hx ci_0 dX6_isNothing_29 ?_
      exact r_zret hx hf rfl dX6_isNothing_30
    · have hf := (f_ite hf).1 q2
      refine r_aloadn hx 0 rfl rfl dX6_isNothing_14 ?_
      refine r_getI hx FK6_0 e_this wf_X6_7 dX6_isNothing_15 ?_
      refine r_aloadn hx 0 rfl rfl dX6_isNothing_18 ?_
      refine r_getI hx FK6_3 e_this wf_X6_13 dX6_isNothing_19 ?_
      refine r_icne (tgt := 29) hx rfl dX6_isNothing_22 (fun q3 => ?_) (fun q3 => ?_)
      · have hf := (f_ite hf).2 q3
        refine r_iconst hx ci_0 dX6_isNothing_29 ?_
        exact r_zret hx hf rfl dX6_isNothing_30
      · have hf := (f_ite hf).1 q3
        refine r_iconst hx ci_1 dX6_isNothing_25 ?_
        refine r_goto (tgt := 30) hx rfl dX6_isNothing_26 ?_
        exact r_zret hx hf rfl dX6_isNothing_30
theorem dX6_isNothingBy_0 : decode bX6_isNothingBy 0 = .ok (.aload_n 0, 1) := by decide +kernel
theorem dX6_isNothingBy_1 : decode bX6_isNothingBy 1 = .ok (.getfield 16, 3) := by decide +kernel
theorem dX6_isNothingBy_4 : decode bX6_isNothingBy 4 = .ok (.ifCond .ne 43, 3) := by decide +kernel
theorem dX6_isNothingBy_7 : decode bX6_isNothingBy 7 = .ok (.aload_n 0, 1) := by decide +kernel
theorem dX6_isNothingBy_8 : decode bX6_isNothingBy 8 = .ok (.getfield 19, 3) := by decide +kernel
theorem dX6_isNothingBy_11 : decode bX6_isNothingBy 11 = .ok (.ifCond .ne 36, 3) := by decide +kernel
theorem dX6_isNothingBy_14 : decode bX6_isNothingBy 14 = .ok (.aload_n 0, 1) := by decide +kernel
theorem dX6_isNothingBy_15 : decode bX6_isNothingBy 15 = .ok (.getfield 7, 3) := by decide +kernel
theorem dX6_isNothingBy_18 : decode bX6_isNothingBy 18 = .ok (.aload_n 0, 1) := by decide +kernel
theorem dX6_isNothingBy_19 : decode bX6_isNothingBy 19 = .ok (.getfield 13, 3) := by decide +kernel
theorem dX6_isNothingBy_22 : decode bX6_isNothingBy 22 = .ok (.if_icmp .ne 25, 3) := by decide +kernel
theorem dX6_isNothingBy_25 : decode bX6_isNothingBy 25 = .ok (.aload_n 0, 1) := by decide +kernel
theorem dX6_isNothingBy_26 : decode bX6_isNothingBy 26 = .ok (.getfield 7, 3) := by decide +kernel
theorem dX6_isNothingBy_29 : decode bX6_isNothingBy 29 = .ok (.iconst 1, 1) := by decide +kernel
theorem dX6_isNothingBy_30 : decode bX6_isNothingBy 30 = .ok (.if_icmp .eq 13, 3) := by decide +kernel
theorem dX6_isNothingBy_33 : decode bX6_isNothingBy 33 = .ok (.aload_n 0, 1) := by decide +kernel
theorem dX6_isNothingBy_34 : decode bX6_isNothingBy 34 = .ok (.getfield 7, 3) := by decide +kernel
theorem dX6_isNothingBy_37 : decode bX6_isNothingBy 37 = .ok (.iload_n 1, 1) := by decide +kernel
theorem dX6_isNothingBy_38 : decode bX6_isNothingBy 38 = .ok (.iconst 1, 1) := by decide +kernel
theorem dX6_isNothingBy_39 : decode bX6_isNothingBy 39 = .ok (.isub, 1) := by decide +kernel
theorem dX6_isNothingBy_40 : decode bX6_isNothingBy 40 = .ok (.if_icmp .ne 7, 3) := by decide +kernel
theorem dX6_isNothingBy_43 : decode bX6_isNothingBy 43 = .ok (.iconst 1, 1) := by decide +kernel
theorem dX6_isNothingBy_44 : decode bX6_isNothingBy 44 = .ok (.goto 4, 3) := by decide +kernel
theorem dX6_isNothingBy_47 : decode bX6_isNothingBy 47 = .ok (.iconst 0, 1) := by decide +kernel
theorem dX6_isNothingBy_48 : decode bX6_isNothingBy 48 = .ok (.ireturn, 1) := by decide +kernel
set_option maxRecDepth 20000 in
set_option maxHeartbeats 4000000 in
theorem cX6_isNothingBy {l : Launch} {k : Kx} {F : Nat} {this : Nat} {a1 : Int32} {μ μ' : Mm} {r : Int32} (hk : kok k) (e_this : kex k 6 this) (hf : fX6_isNothingBy F this a1 μ = some (r, μ')) : MM l k 0 yX6_isNothingBy bX6_isNothingBy 2 (some .boolean) [.ref (kad k 6 this), .int a1] μ (some (.int r)) μ' := by
  refine MM.of (lv := [(0, .ref (kad k 6 this)), (1, .int a1)]) (plainFor_of_name (by decide)) hk (Nat.le_of_ble_eq_true rfl) rfl (fun z hl hx => ?_)
  subst hl
  have hx : Ok z k bX6_isNothingBy 2 "RopeDance$Table" (some .boolean) 0 (0, 0) := hx
  have L43 : ∀ (μ : Mm), fX6_isNothingBy_L43 F  μ = some (r, μ') → Gw z k 2 (k, (0, 0), (some .boolean), (some (.int r)), μ') (0, 0) 43 μ [] [] := by
    intro  μ hf
    unfold fX6_isNothingBy_L43 at hf
    refine r_iconst hx ci_1 dX6_isNothingBy_43 ?_
    refine r_goto (tgt := 48) hx rfl dX6_isNothingBy_44 ?_
    exact r_zret hx hf rfl dX6_isNothingBy_48
  unfold fX6_isNothingBy at hf
  refine r_aloadn hx 0 rfl rfl dX6_isNothingBy_0 ?_
  refine r_getI hx FK6_1 e_this wf_X6_16 dX6_isNothingBy_1 ?_
  refine r_ifne (tgt := 47) hx rfl dX6_isNothingBy_4 (fun q1 => ?_) (fun q1 => ?_)
  · have hf := (f_ite hf).2 q1
    refine r_iconst hx ci_0 dX6_isNothingBy_47 ?_
    exact r_zret hx hf rfl dX6_isNothingBy_48
  · have hf := (f_ite hf).1 q1
    refine r_aloadn hx 0 rfl rfl dX6_isNothingBy_7 ?_
    refine r_getI hx FK6_2 e_this wf_X6_19 dX6_isNothingBy_8 ?_
    refine r_ifne (tgt := 47) hx rfl dX6_isNothingBy_11 (fun q2 => ?_) (fun q2 => ?_)
    · have hf := (f_ite hf).2 q2
      refine r_iconst hx ci_0 dX6_isNothingBy_47 ?_
      exact r_zret hx hf rfl dX6_isNothingBy_48
    · have hf := (f_ite hf).1 q2
      refine r_aloadn hx 0 rfl rfl dX6_isNothingBy_14 ?_
      refine r_getI hx FK6_0 e_this wf_X6_7 dX6_isNothingBy_15 ?_
      refine r_aloadn hx 0 rfl rfl dX6_isNothingBy_18 ?_
      refine r_getI hx FK6_3 e_this wf_X6_13 dX6_isNothingBy_19 ?_
      refine r_icne (tgt := 47) hx rfl dX6_isNothingBy_22 (fun q3 => ?_) (fun q3 => ?_)
      · have hf := (f_ite hf).2 q3
        refine r_iconst hx ci_0 dX6_isNothingBy_47 ?_
        exact r_zret hx hf rfl dX6_isNothingBy_48
      · have hf := (f_ite hf).1 q3
        refine r_aloadn hx 0 rfl rfl dX6_isNothingBy_25 ?_
        refine r_getI hx FK6_0 e_this wf_X6_7 dX6_isNothingBy_26 ?_
        refine r_iconst hx ci_1 dX6_isNothingBy_29 ?_
        refine r_iceq (tgt := 43) hx rfl dX6_isNothingBy_30 (fun q4 => ?_) (fun q4 => ?_)
        · have hf := (f_ite hf).1 q4
          refine r_sub [] rfl ?_
          exact L43   μ hf
        · have hf := (f_ite hf).2 q4
          refine r_aloadn hx 0 rfl rfl dX6_isNothingBy_33 ?_
          refine r_getI hx FK6_0 e_this wf_X6_7 dX6_isNothingBy_34 ?_
          refine r_iloadn hx 1 rfl rfl dX6_isNothingBy_37 ?_
          refine r_iconst hx ci_1 dX6_isNothingBy_38 ?_
          refine r_isub hx dX6_isNothingBy_39 ?_
          refine r_icne (tgt := 47) hx rfl dX6_isNothingBy_40 (fun q5 => ?_) (fun q5 => ?_)
          · have hf := (f_ite hf).2 q5
            refine r_iconst hx ci_0 dX6_isNothingBy_47 ?_
            exact r_zret hx hf rfl dX6_isNothingBy_48
          · have hf := (f_ite hf).1 q5
            refine r_sub [] rfl ?_
            exact L43   μ hf
theorem dX6_isAsFractions_0 : decode bX6_isAsFractions 0 = .ok (.aload_n 0, 1) := by decide +kernel
theorem dX6_isAsFractions_1 : decode bX6_isAsFractions 1 = .ok (.invokevirtual 30, 3) := by decide +kernel
theorem dX6_isAsFractions_4 : decode bX6_isAsFractions 4 = .ok (.aload_n 1, 1) := by decide +kernel
theorem dX6_isAsFractions_5 : decode bX6_isAsFractions 5 = .ok (.invokevirtual 30, 3) := by decide +kernel
theorem dX6_isAsFractions_8 : decode bX6_isAsFractions 8 = .ok (.imul, 1) := by decide +kernel
theorem dX6_isAsFractions_9 : decode bX6_isAsFractions 9 = .ok (.istore_n 2, 1) := by decide +kernel
theorem dX6_isAsFractions_10 : decode bX6_isAsFractions 10 = .ok (.aload_n 0, 1) := by decide +kernel
theorem dX6_isAsFractions_11 : decode bX6_isAsFractions 11 = .ok (.getfield 7, 3) := by decide +kernel
theorem dX6_isAsFractions_14 : decode bX6_isAsFractions 14 = .ok (.iload_n 2, 1) := by decide +kernel
theorem dX6_isAsFractions_15 : decode bX6_isAsFractions 15 = .ok (.aload_n 1, 1) := by decide +kernel
theorem dX6_isAsFractions_16 : decode bX6_isAsFractions 16 = .ok (.getfield 7, 3) := by decide +kernel
theorem dX6_isAsFractions_19 : decode bX6_isAsFractions 19 = .ok (.imul, 1) := by decide +kernel
theorem dX6_isAsFractions_20 : decode bX6_isAsFractions 20 = .ok (.if_icmp .ne 46, 3) := by decide +kernel
theorem dX6_isAsFractions_23 : decode bX6_isAsFractions 23 = .ok (.aload_n 0, 1) := by decide +kernel
theorem dX6_isAsFractions_24 : decode bX6_isAsFractions 24 = .ok (.getfield 16, 3) := by decide +kernel
theorem dX6_isAsFractions_27 : decode bX6_isAsFractions 27 = .ok (.iload_n 2, 1) := by decide +kernel
theorem dX6_isAsFractions_28 : decode bX6_isAsFractions 28 = .ok (.aload_n 1, 1) := by decide +kernel
theorem dX6_isAsFractions_29 : decode bX6_isAsFractions 29 = .ok (.getfield 16, 3) := by decide +kernel
theorem dX6_isAsFractions_32 : decode bX6_isAsFractions 32 = .ok (.imul, 1) := by decide +kernel
theorem dX6_isAsFractions_33 : decode bX6_isAsFractions 33 = .ok (.if_icmp .ne 33, 3) := by decide +kernel
theorem dX6_isAsFractions_36 : decode bX6_isAsFractions 36 = .ok (.aload_n 0, 1) := by decide +kernel
theorem dX6_isAsFractions_37 : decode bX6_isAsFractions 37 = .ok (.getfield 19, 3) := by decide +kernel
theorem dX6_isAsFractions_40 : decode bX6_isAsFractions 40 = .ok (.iload_n 2, 1) := by decide +kernel
theorem dX6_isAsFractions_41 : decode bX6_isAsFractions 41 = .ok (.aload_n 1, 1) := by decide +kernel
theorem dX6_isAsFractions_42 : decode bX6_isAsFractions 42 = .ok (.getfield 19, 3) := by decide +kernel
theorem dX6_isAsFractions_45 : decode bX6_isAsFractions 45 = .ok (.imul, 1) := by decide +kernel
theorem dX6_isAsFractions_46 : decode bX6_isAsFractions 46 = .ok (.if_icmp .ne 20, 3) := by decide +kernel
theorem dX6_isAsFractions_49 : decode bX6_isAsFractions 49 = .ok (.aload_n 0, 1) := by decide +kernel
theorem dX6_isAsFractions_50 : decode bX6_isAsFractions 50 = .ok (.getfield 13, 3) := by decide +kernel
theorem dX6_isAsFractions_53 : decode bX6_isAsFractions 53 = .ok (.iload_n 2, 1) := by decide +kernel
theorem dX6_isAsFractions_54 : decode bX6_isAsFractions 54 = .ok (.aload_n 1, 1) := by decide +kernel
theorem dX6_isAsFractions_55 : decode bX6_isAsFractions 55 = .ok (.getfield 13, 3) := by decide +kernel
theorem dX6_isAsFractions_58 : decode bX6_isAsFractions 58 = .ok (.imul, 1) := by decide +kernel
theorem dX6_isAsFractions_59 : decode bX6_isAsFractions 59 = .ok (.if_icmp .ne 7, 3) := by decide +kernel
theorem dX6_isAsFractions_62 : decode bX6_isAsFractions 62 = .ok (.iconst 1, 1) := by decide +kernel
theorem dX6_isAsFractions_63 : decode bX6_isAsFractions 63 = .ok (.goto 4, 3) := by decide +kernel
theorem dX6_isAsFractions_66 : decode bX6_isAsFractions 66 = .ok (.iconst 0, 1) := by decide +kernel
theorem dX6_isAsFractions_67 : decode bX6_isAsFractions 67 = .ok (.ireturn, 1) := by decide +kernel
set_option maxRecDepth 20000 in
set_option maxHeartbeats 4000000 in
theorem cX6_isAsFractions {l : Launch} {k : Kx} {F : Nat} {this : Nat} {a1 : Nat} {μ μ' : Mm} {r : Int32} (hk : kok k) (e_this : kex k 6 this) (e_a1 : kex k 6 a1) (hf : fX6_isAsFractions F this a1 μ = some (r, μ')) : MM l k 1 yX6_isAsFractions bX6_isAsFractions 3 (some .boolean) [.ref (kad k 6 this), .ref (kad k 6 a1)] μ (some (.int r)) μ' := by
  refine MM.of (lv := [(0, .ref (kad k 6 this)), (1, .ref (kad k 6 a1))]) (plainFor_of_name (by decide)) hk (Nat.le_of_ble_eq_true rfl) rfl (fun z hl hx => ?_)
  subst hl
  have hx : Ok z k bX6_isAsFractions 3 "RopeDance$Table" (some .boolean) 1 (0, 0) := hx
  unfold fX6_isAsFractions at hf
  refine r_aloadn hx 0 rfl rfl dX6_isAsFractions_0 ?_
  obtain ⟨r3, μ2, c1, hf⟩ := f_bd2 hf
  refine r_callV hx (As := []) (rest := []) (st1 := [.int r3]) (c := 6) (i := this) (TT := T6) (N := 4) MK_X6_sign rfl wi_X6_sign we_X6_sign wm_X6_30 ⟨Nat.le_refl _, Nat.le_refl _⟩ (cX6_sign hk e_this c1) e_this (Nat.le_of_ble_eq_true rfl) rfl rfl (Nat.le_of_ble_eq_true rfl) rfl dX6_isAsFractions_1 (fun hb4 => ?_)
  refine r_aloadn hx 1 rfl rfl dX6_isAsFractions_4 ?_
  obtain ⟨r7, μ6, c5, hf⟩ := f_bd2 hf
  refine r_callV hx (As := []) (rest := [.int r3]) (st1 := [.int r7, .int r3]) (c := 6) (i := a1) (TT := T6) (N := 4) MK_X6_sign rfl wi_X6_sign we_X6_sign wm_X6_30 ⟨Nat.le_refl _, Nat.le_refl _⟩ (cX6_sign hk e_a1 c5) e_a1 (Nat.le_of_ble_eq_true rfl) rfl rfl (Nat.le_of_ble_eq_true rfl) rfl dX6_isAsFractions_5 (fun hb8 => ?_)
  refine r_imul hx dX6_isAsFractions_8 ?_
  refine r_istoren (lv' := [(2, .int (r3 * r7)), (0, .ref (kad k 6 this)), (1, .ref (kad k 6 a1))]) hx rfl (Nat.le_of_ble_eq_true rfl) rfl dX6_isAsFractions_9 ?_
  refine r_aloadn hx 1 rfl rfl dX6_isAsFractions_10 ?_
  refine r_getI hx FK6_0 e_this wf_X6_7 dX6_isAsFractions_11 ?_
  refine r_iloadn hx 0 rfl rfl dX6_isAsFractions_14 ?_
  refine r_aloadn hx 2 rfl rfl dX6_isAsFractions_15 ?_
  refine r_getI hx FK6_0 e_a1 wf_X6_7 dX6_isAsFractions_16 ?_
  refine r_imul hx dX6_isAsFractions_19 ?_
  refine r_icne (tgt := 66) hx rfl dX6_isAsFractions_20 (fun q9 => ?_) (fun q9 => ?_)
  · have hf := (f_ite hf).2 q9
    refine r_iconst hx ci_0 dX6_isAsFractions_66 ?_
    exact r_zret hx hf rfl dX6_isAsFractions_67
  · have hf := (f_ite hf).1 q9
    refine r_aloadn hx 1 rfl rfl dX6_isAsFractions_23 ?_
    refine r_getI hx FK6_1 e_this wf_X6_16 dX6_isAsFractions_24 ?_
    refine r_iloadn hx 0 rfl rfl dX6_isAsFractions_27 ?_
    refine r_aloadn hx 2 rfl rfl dX6_isAsFractions_28 ?_
    refine r_getI hx FK6_1 e_a1 wf_X6_16 dX6_isAsFractions_29 ?_
    refine r_imul hx dX6_isAsFractions_32 ?_
    refine r_icne (tgt := 66) hx rfl dX6_isAsFractions_33 (fun q10 => ?_) (fun q10 => ?_)
    · have hf := (f_ite hf).2 q10
      refine r_iconst hx ci_0 dX6_isAsFractions_66 ?_
      exact r_zret hx hf rfl dX6_isAsFractions_67
    · have hf := (f_ite hf).1 q10
      refine r_aloadn hx 1 rfl rfl dX6_isAsFractions_36 ?_
      refine r_getI hx FK6_2 e_this wf_X6_19 dX6_isAsFractions_37 ?_
      refine r_iloadn hx 0 rfl rfl dX6_isAsFractions_40 ?_
      refine r_aloadn hx 2 rfl rfl dX6_isAsFractions_41 ?_
      refine r_getI hx FK6_2 e_a1 wf_X6_19 dX6_isAsFractions_42 ?_
      refine r_imul hx dX6_isAsFractions_45 ?_
      refine r_icne (tgt := 66) hx rfl dX6_isAsFractions_46 (fun q11 => ?_) (fun q11 => ?_)
      · have hf := (f_ite hf).2 q11
        refine r_iconst hx ci_0 dX6_isAsFractions_66 ?_
        exact r_zret hx hf rfl dX6_isAsFractions_67
      · have hf := (f_ite hf).1 q11
        refine r_aloadn hx 1 rfl rfl dX6_isAsFractions_49 ?_
        refine r_getI hx FK6_3 e_this wf_X6_13 dX6_isAsFractions_50 ?_
        refine r_iloadn hx 0 rfl rfl dX6_isAsFractions_53 ?_
        refine r_aloadn hx 2 rfl rfl dX6_isAsFractions_54 ?_
        refine r_getI hx FK6_3 e_a1 wf_X6_13 dX6_isAsFractions_55 ?_
        refine r_imul hx dX6_isAsFractions_58 ?_
        refine r_icne (tgt := 66) hx rfl dX6_isAsFractions_59 (fun q12 => ?_) (fun q12 => ?_)
        · have hf := (f_ite hf).2 q12
          refine r_iconst hx ci_0 dX6_isAsFractions_66 ?_
          exact r_zret hx hf rfl dX6_isAsFractions_67
        · have hf := (f_ite hf).1 q12
          refine r_iconst hx ci_1 dX6_isAsFractions_62 ?_
          refine r_goto (tgt := 67) hx rfl dX6_isAsFractions_63 ?_
          exact r_zret hx hf rfl dX6_isAsFractions_67
theorem dX6_endsOf_0 : decode bX6_endsOf 0 = .ok (.iload_n 1, 1) := by decide +kernel
theorem dX6_endsOf_1 : decode bX6_endsOf 1 = .ok (.ifCond .ne 7, 3) := by decide +kernel
theorem dX6_endsOf_4 : decode bX6_endsOf 4 = .ok (.iconst 0, 1) := by decide +kernel
theorem dX6_endsOf_5 : decode bX6_endsOf 5 = .ok (.goto 4, 3) := by decide +kernel
theorem dX6_endsOf_8 : decode bX6_endsOf 8 = .ok (.iconst 1, 1) := by decide +kernel
theorem dX6_endsOf_9 : decode bX6_endsOf 9 = .ok (.istore_n 2, 1) := by decide +kernel
theorem dX6_endsOf_10 : decode bX6_endsOf 10 = .ok (.iload_n 1, 1) := by decide +kernel
theorem dX6_endsOf_11 : decode bX6_endsOf 11 = .ok (.iconst 2, 1) := by decide +kernel
theorem dX6_endsOf_12 : decode bX6_endsOf 12 = .ok (.if_icmp .ne 7, 3) := by decide +kernel
theorem dX6_endsOf_15 : decode bX6_endsOf 15 = .ok (.iconst 0, 1) := by decide +kernel
theorem dX6_endsOf_16 : decode bX6_endsOf 16 = .ok (.goto 4, 3) := by decide +kernel
theorem dX6_endsOf_19 : decode bX6_endsOf 19 = .ok (.iconst 1, 1) := by decide +kernel
theorem dX6_endsOf_20 : decode bX6_endsOf 20 = .ok (.istore_n 3, 1) := by decide +kernel
theorem dX6_endsOf_21 : decode bX6_endsOf 21 = .ok (.aload_n 0, 1) := by decide +kernel
theorem dX6_endsOf_22 : decode bX6_endsOf 22 = .ok (.getfield 7, 3) := by decide +kernel
theorem dX6_endsOf_25 : decode bX6_endsOf 25 = .ok (.iload_n 2, 1) := by decide +kernel
theorem dX6_endsOf_26 : decode bX6_endsOf 26 = .ok (.imul, 1) := by decide +kernel
theorem dX6_endsOf_27 : decode bX6_endsOf 27 = .ok (.aload_n 0, 1) := by decide +kernel
theorem dX6_endsOf_28 : decode bX6_endsOf 28 = .ok (.getfield 16, 3) := by decide +kernel
theorem dX6_endsOf_31 : decode bX6_endsOf 31 = .ok (.iload_n 3, 1) := by decide +kernel
theorem dX6_endsOf_32 : decode bX6_endsOf 32 = .ok (.imul, 1) := by decide +kernel
theorem dX6_endsOf_33 : decode bX6_endsOf 33 = .ok (.iadd, 1) := by decide +kernel
theorem dX6_endsOf_34 : decode bX6_endsOf 34 = .ok (.aload_n 0, 1) := by decide +kernel
theorem dX6_endsOf_35 : decode bX6_endsOf 35 = .ok (.getfield 19, 3) := by decide +kernel
theorem dX6_endsOf_38 : decode bX6_endsOf 38 = .ok (.iload_n 2, 1) := by decide +kernel
theorem dX6_endsOf_39 : decode bX6_endsOf 39 = .ok (.imul, 1) := by decide +kernel
theorem dX6_endsOf_40 : decode bX6_endsOf 40 = .ok (.aload_n 0, 1) := by decide +kernel
theorem dX6_endsOf_41 : decode bX6_endsOf 41 = .ok (.getfield 13, 3) := by decide +kernel
theorem dX6_endsOf_44 : decode bX6_endsOf 44 = .ok (.iload_n 3, 1) := by decide +kernel
theorem dX6_endsOf_45 : decode bX6_endsOf 45 = .ok (.imul, 1) := by decide +kernel
theorem dX6_endsOf_46 : decode bX6_endsOf 46 = .ok (.iadd, 1) := by decide +kernel
theorem dX6_endsOf_47 : decode bX6_endsOf 47 = .ok (.invokestatic 34, 3) := by decide +kernel
theorem dX6_endsOf_50 : decode bX6_endsOf 50 = .ok (.ireturn, 1) := by decide +kernel
set_option maxRecDepth 20000 in
set_option maxHeartbeats 4000000 in
theorem cX6_endsOf {l : Launch} {k : Kx} {F : Nat} {this : Nat} {a1 : Int32} {μ μ' : Mm} {r : Int32} (hk : kok k) (e_this : kex k 6 this) (hf : fX6_endsOf F this a1 μ = some (r, μ')) : MM l k 1 yX6_endsOf bX6_endsOf 4 (some .int) [.ref (kad k 6 this), .int a1] μ (some (.int r)) μ' := by
  refine MM.of (lv := [(0, .ref (kad k 6 this)), (1, .int a1)]) (plainFor_of_name (by decide)) hk (Nat.le_of_ble_eq_true rfl) rfl (fun z hl hx => ?_)
  subst hl
  have hx : Ok z k bX6_endsOf 4 "RopeDance$Table" (some .int) 1 (0, 0) := hx
  have L20 : ∀ (v0 : Nat) (v2 : Int32) (s0 : Int32) (μ : Mm) (e_v0 : kex k 6 v0), fX6_endsOf_L20 F v0 v2 s0 μ = some (r, μ') → Gw z k 4 (k, (0, 0), (some .int), (some (.int r)), μ') (0, 0) 20 μ [(0, .ref (kad k 6 v0)), (2, .int v2)] [.int s0] := by
    intro  v0 v2 s0 μ e_v0 hf
    unfold fX6_endsOf_L20 at hf
    refine r_istoren (lv' := [(3, .int s0), (0, .ref (kad k 6 v0)), (2, .int v2)]) hx rfl (Nat.le_of_ble_eq_true rfl) rfl dX6_endsOf_20 ?_
    refine r_aloadn hx 1 rfl rfl dX6_endsOf_21 ?_
    refine r_getI hx FK6_0 e_v0 wf_X6_7 dX6_endsOf_22 ?_
    refine r_iloadn hx 2 rfl rfl dX6_endsOf_25 ?_
    refine r_imul hx dX6_endsOf_26 ?_
    refine r_aloadn hx 1 rfl rfl dX6_endsOf_27 ?_
    refine r_getI hx FK6_1 e_v0 wf_X6_16 dX6_endsOf_28 ?_
    refine r_iloadn hx 0 rfl rfl dX6_endsOf_31 ?_
    refine r_imul hx dX6_endsOf_32 ?_
    refine r_iadd hx dX6_endsOf_33 ?_
    refine r_aloadn hx 1 rfl rfl dX6_endsOf_34 ?_
    refine r_getI hx FK6_2 e_v0 wf_X6_19 dX6_endsOf_35 ?_
    refine r_iloadn hx 2 rfl rfl dX6_endsOf_38 ?_
    refine r_imul hx dX6_endsOf_39 ?_
    refine r_aloadn hx 1 rfl rfl dX6_endsOf_40 ?_
    refine r_getI hx FK6_3 e_v0 wf_X6_13 dX6_endsOf_41 ?_
    refine r_iloadn hx 0 rfl rfl dX6_endsOf_44 ?_
    refine r_imul hx dX6_endsOf_45 ?_
    refine r_iadd hx dX6_endsOf_46 ?_
    obtain ⟨r5, μ4, c3, hf⟩ := f_bd2 hf
    refine r_callS hx (As := [.int (((gi μ 6 v0 0) * v2) + ((gi μ 6 v0 1) * s0)), .int (((gi μ 6 v0 2) * v2) + ((gi μ 6 v0 3) * s0))]) (rest := []) (st1 := [.int r5]) MK_X5_endsOf ws_X5_endsOf wm_X6_34 ⟨Nat.le_refl _, Nat.le_refl _⟩ (cX5_endsOf hk c3) (Nat.le_of_ble_eq_true rfl) rfl rfl (Nat.le_of_ble_eq_true rfl) rfl dX6_endsOf_47 (fun hb6 => ?_)
    exact r_iret hx hf dX6_endsOf_50
  have L9 : ∀ (v0 : Nat) (v1 : Int32) (s0 : Int32) (μ : Mm) (e_v0 : kex k 6 v0), fX6_endsOf_L9 F v0 v1 s0 μ = some (r, μ') → Gw z k 4 (k, (0, 0), (some .int), (some (.int r)), μ') (0, 0) 9 μ [(0, .ref (kad k 6 v0)), (1, .int v1)] [.int s0] := by
    intro  v0 v1 s0 μ e_v0 hf
    unfold fX6_endsOf_L9 at hf
    refine r_istoren (lv' := [(2, .int s0), (0, .ref (kad k 6 v0)), (1, .int v1)]) hx rfl (Nat.le_of_ble_eq_true rfl) rfl dX6_endsOf_9 ?_
    refine r_iloadn hx 2 rfl rfl dX6_endsOf_10 ?_
    refine r_iconst hx ci_2 dX6_endsOf_11 ?_
    refine r_icne (tgt := 19) hx rfl dX6_endsOf_12 (fun q2 => ?_) (fun q2 => ?_)
    · have hf := (f_ite hf).2 q2
      refine r_iconst hx ci_1 dX6_endsOf_19 ?_
      refine r_sub [1, 0] rfl ?_
      exact L20  v0 s0 1 μ e_v0 hf
    · have hf := (f_ite hf).1 q2
      refine r_iconst hx ci_0 dX6_endsOf_15 ?_
      refine r_goto (tgt := 20) hx rfl dX6_endsOf_16 ?_
      refine r_sub [1, 0] rfl ?_
      exact L20  v0 s0 0 μ e_v0 hf
  unfold fX6_endsOf at hf
  refine r_iloadn hx 1 rfl rfl dX6_endsOf_0 ?_
  refine r_ifne (tgt := 8) hx rfl dX6_endsOf_1 (fun q1 => ?_) (fun q1 => ?_)
  · have hf := (f_ite hf).2 q1
    refine r_iconst hx ci_1 dX6_endsOf_8 ?_
    refine r_sub [0, 1] rfl ?_
    exact L9  this a1 1 μ e_this hf
  · have hf := (f_ite hf).1 q1
    refine r_iconst hx ci_0 dX6_endsOf_4 ?_
    refine r_goto (tgt := 9) hx rfl dX6_endsOf_5 ?_
    refine r_sub [0, 1] rfl ?_
    exact L9  this a1 0 μ e_this hf
theorem dX11_greatest_0 : decode bX11_greatest 0 = .ok (.iload_n 0, 1) := by decide +kernel
theorem dX11_greatest_1 : decode bX11_greatest 1 = .ok (.istore_n 2, 1) := by decide +kernel
theorem dX11_greatest_2 : decode bX11_greatest 2 = .ok (.iload_n 1, 1) := by decide +kernel
theorem dX11_greatest_3 : decode bX11_greatest 3 = .ok (.istore_n 3, 1) := by decide +kernel
theorem dX11_greatest_4 : decode bX11_greatest 4 = .ok (.iconst 0, 1) := by decide +kernel
theorem dX11_greatest_5 : decode bX11_greatest 5 = .ok (.istore 4, 2) := by decide +kernel
theorem dX11_greatest_7 : decode bX11_greatest 7 = .ok (.iload 4, 2) := by decide +kernel
theorem dX11_greatest_9 : decode bX11_greatest 9 = .ok (.bipush 100, 2) := by decide +kernel
theorem dX11_greatest_11 : decode bX11_greatest 11 = .ok (.if_icmp .ge 23, 3) := by decide +kernel
theorem dX11_greatest_14 : decode bX11_greatest 14 = .ok (.iload_n 3, 1) := by decide +kernel
theorem dX11_greatest_15 : decode bX11_greatest 15 = .ok (.ifCond .eq 19, 3) := by decide +kernel
theorem dX11_greatest_18 : decode bX11_greatest 18 = .ok (.iload_n 2, 1) := by decide +kernel
theorem dX11_greatest_19 : decode bX11_greatest 19 = .ok (.iload_n 3, 1) := by decide +kernel
theorem dX11_greatest_20 : decode bX11_greatest 20 = .ok (.irem, 1) := by decide +kernel
theorem dX11_greatest_21 : decode bX11_greatest 21 = .ok (.istore 5, 2) := by decide +kernel
theorem dX11_greatest_23 : decode bX11_greatest 23 = .ok (.iload_n 3, 1) := by decide +kernel
theorem dX11_greatest_24 : decode bX11_greatest 24 = .ok (.istore_n 2, 1) := by decide +kernel
theorem dX11_greatest_25 : decode bX11_greatest 25 = .ok (.iload 5, 2) := by decide +kernel
theorem dX11_greatest_27 : decode bX11_greatest 27 = .ok (.istore_n 3, 1) := by decide +kernel
theorem dX11_greatest_28 : decode bX11_greatest 28 = .ok (.iinc 4 1, 3) := by decide +kernel
theorem dX11_greatest_31 : decode bX11_greatest 31 = .ok (.goto (-24), 3) := by decide +kernel
theorem dX11_greatest_34 : decode bX11_greatest 34 = .ok (.iload_n 2, 1) := by decide +kernel
theorem dX11_greatest_35 : decode bX11_greatest 35 = .ok (.ireturn, 1) := by decide +kernel
set_option maxRecDepth 20000 in
set_option maxHeartbeats 4000000 in
theorem cX11_greatest {l : Launch} {k : Kx} {F : Nat} {a0 : Int32} {a1 : Int32} {μ μ' : Mm} {r : Int32} (hk : kok k) (hf : fX11_greatest F a0 a1 μ = some (r, μ')) : MM l k 0 yX11_greatest bX11_greatest 6 (some .int) [.int a0, .int a1] μ (some (.int r)) μ' := by
  refine MM.of (lv := [(0, .int a0), (1, .int a1)]) (plainFor_of_name (by decide)) hk (Nat.le_of_ble_eq_true rfl) rfl (fun z hl hx => ?_)
  subst hl
  have hx : Ok z k bX11_greatest 6 "RopeDance" (some .int) 0 (0, 0) := hx
  have L7 : ∀ (n : Nat) (v2 : Int32) (v3 : Int32) (v4 : Int32) (μ : Mm), fX11_greatest_L7 F n v2 v3 v4 μ = some (r, μ') → Gw z k 6 (k, (0, 0), (some .int), (some (.int r)), μ') (0, 0) 7 μ [(2, .int v2), (3, .int v3), (4, .int v4)] [] := by
    intro  n
    induction n with
    | zero =>
      intro v2 v3 v4 μ hf
      exact f_no (show (none : Option (Int32 × Mm)) = _ from hf)
    | succ n ih =>
      intro v2 v3 v4 μ hf
      rw [fX11_greatest_L7] at hf
      refine r_iload hx 2 rfl dX11_greatest_7 ?_
      refine r_bipush hx cb_100 dX11_greatest_9 ?_
      refine r_icge (tgt := 34) hx rfl dX11_greatest_11 (fun q1 => ?_) (fun q1 => ?_)
      · have hf := (f_ite hf).1 q1
        refine r_iloadn hx 0 rfl rfl dX11_greatest_34 ?_
        exact r_iret hx hf dX11_greatest_35
      · have hf := (f_ite hf).2 q1
        refine r_iloadn hx 1 rfl rfl dX11_greatest_14 ?_
        refine r_ifeq (tgt := 34) hx rfl dX11_greatest_15 (fun q2 => ?_) (fun q2 => ?_)
        · have hf := (f_ite hf).1 q2
          refine r_iloadn hx 0 rfl rfl dX11_greatest_34 ?_
          exact r_iret hx hf dX11_greatest_35
        · have hf := (f_ite hf).2 q2
          refine r_iloadn hx 0 rfl rfl dX11_greatest_18 ?_
          refine r_iloadn hx 1 rfl rfl dX11_greatest_19 ?_
          obtain ⟨q3, hf⟩ := f_nz hf
          refine r_irem hx q3 dX11_greatest_20 ?_
          refine r_istore (lv' := [(5, .int (irm v2 v3)), (2, .int v2), (3, .int v3), (4, .int v4)]) hx (Nat.le_of_ble_eq_true rfl) rfl dX11_greatest_21 ?_
          refine r_iloadn hx 2 rfl rfl dX11_greatest_23 ?_
          refine r_istoren (lv' := [(2, .int v3), (5, .int (irm v2 v3)), (3, .int v3), (4, .int v4)]) hx rfl (Nat.le_of_ble_eq_true rfl) rfl dX11_greatest_24 ?_
          refine r_iload hx 1 rfl dX11_greatest_25 ?_
          refine r_istoren (lv' := [(3, .int (irm v2 v3)), (2, .int v3), (5, .int (irm v2 v3)), (4, .int v4)]) hx rfl (Nat.le_of_ble_eq_true rfl) rfl dX11_greatest_27 ?_
          refine r_iinc (lv' := [(4, .int (v4 + 1)), (3, .int (irm v2 v3)), (2, .int v3), (5, .int (irm v2 v3))]) hx 3 rfl (congrArg (fun y => v4 + y) ci_1) (Nat.le_of_ble_eq_true rfl) rfl dX11_greatest_28 ?_
          refine r_goto (tgt := 7) hx rfl dX11_greatest_31 ?_
          refine r_sub [2, 1, 0] rfl ?_
          exact ih v3 (irm v2 v3) (v4 + 1) μ hf
  unfold fX11_greatest at hf
  refine r_iloadn hx 0 rfl rfl dX11_greatest_0 ?_
  refine r_istoren (lv' := [(2, .int a0), (0, .int a0), (1, .int a1)]) hx rfl (Nat.le_of_ble_eq_true rfl) rfl dX11_greatest_1 ?_
  refine r_iloadn hx 2 rfl rfl dX11_greatest_2 ?_
  refine r_istoren (lv' := [(3, .int a1), (2, .int a0), (0, .int a0), (1, .int a1)]) hx rfl (Nat.le_of_ble_eq_true rfl) rfl dX11_greatest_3 ?_
  refine r_iconst hx ci_0 dX11_greatest_4 ?_
  refine r_istore (lv' := [(4, .int 0), (3, .int a1), (2, .int a0), (0, .int a0), (1, .int a1)]) hx (Nat.le_of_ble_eq_true rfl) rfl dX11_greatest_5 ?_
  refine r_sub [2, 1, 0] rfl ?_
  exact L7 F a0 a1 0 μ hf
theorem dX6_stay_0 : decode bX6_stay 0 = .ok (.aload_n 1, 1) := by decide +kernel
theorem dX6_stay_1 : decode bX6_stay 1 = .ok (.iconst 1, 1) := by decide +kernel
theorem dX6_stay_2 : decode bX6_stay 2 = .ok (.putfield 39, 3) := by decide +kernel
theorem dX6_stay_5 : decode bX6_stay 5 = .ok (.aload_n 1, 1) := by decide +kernel
theorem dX6_stay_6 : decode bX6_stay 6 = .ok (.iconst 0, 1) := by decide +kernel
theorem dX6_stay_7 : decode bX6_stay 7 = .ok (.putfield 42, 3) := by decide +kernel
theorem dX6_stay_10 : decode bX6_stay 10 = .ok (.aload_n 0, 1) := by decide +kernel
theorem dX6_stay_11 : decode bX6_stay 11 = .ok (.invokevirtual 45, 3) := by decide +kernel
theorem dX6_stay_14 : decode bX6_stay 14 = .ok (.ifCond .eq 7, 3) := by decide +kernel
theorem dX6_stay_17 : decode bX6_stay 17 = .ok (.sipush 12016, 3) := by decide +kernel
theorem dX6_stay_20 : decode bX6_stay 20 = .ok (.ireturn, 1) := by decide +kernel
theorem dX6_stay_21 : decode bX6_stay 21 = .ok (.aload_n 0, 1) := by decide +kernel
theorem dX6_stay_22 : decode bX6_stay 22 = .ok (.invokevirtual 49, 3) := by decide +kernel
theorem dX6_stay_25 : decode bX6_stay 25 = .ok (.invokestatic 52, 3) := by decide +kernel
theorem dX6_stay_28 : decode bX6_stay 28 = .ok (.iconst 2, 1) := by decide +kernel
theorem dX6_stay_29 : decode bX6_stay 29 = .ok (.if_icmp .eq 5, 3) := by decide +kernel
theorem dX6_stay_32 : decode bX6_stay 32 = .ok (.iconst 0, 1) := by decide +kernel
theorem dX6_stay_33 : decode bX6_stay 33 = .ok (.ireturn, 1) := by decide +kernel
theorem dX6_stay_34 : decode bX6_stay 34 = .ok (.aload_n 0, 1) := by decide +kernel
theorem dX6_stay_35 : decode bX6_stay 35 = .ok (.getfield 19, 3) := by decide +kernel
theorem dX6_stay_38 : decode bX6_stay 38 = .ok (.ifCond .ne 5, 3) := by decide +kernel
theorem dX6_stay_41 : decode bX6_stay 41 = .ok (.iconst 1, 1) := by decide +kernel
theorem dX6_stay_42 : decode bX6_stay 42 = .ok (.ireturn, 1) := by decide +kernel
theorem dX6_stay_43 : decode bX6_stay 43 = .ok (.aload_n 0, 1) := by decide +kernel
theorem dX6_stay_44 : decode bX6_stay 44 = .ok (.getfield 19, 3) := by decide +kernel
theorem dX6_stay_47 : decode bX6_stay 47 = .ok (.ifCond .le 15, 3) := by decide +kernel
theorem dX6_stay_50 : decode bX6_stay 50 = .ok (.aload_n 0, 1) := by decide +kernel
theorem dX6_stay_51 : decode bX6_stay 51 = .ok (.getfield 7, 3) := by decide +kernel
theorem dX6_stay_54 : decode bX6_stay 54 = .ok (.aload_n 0, 1) := by decide +kernel
theorem dX6_stay_55 : decode bX6_stay 55 = .ok (.getfield 13, 3) := by decide +kernel
theorem dX6_stay_58 : decode bX6_stay 58 = .ok (.isub, 1) := by decide +kernel
theorem dX6_stay_59 : decode bX6_stay 59 = .ok (.goto 12, 3) := by decide +kernel
theorem dX6_stay_62 : decode bX6_stay 62 = .ok (.aload_n 0, 1) := by decide +kernel
theorem dX6_stay_63 : decode bX6_stay 63 = .ok (.getfield 13, 3) := by decide +kernel
theorem dX6_stay_66 : decode bX6_stay 66 = .ok (.aload_n 0, 1) := by decide +kernel
theorem dX6_stay_67 : decode bX6_stay 67 = .ok (.getfield 7, 3) := by decide +kernel
theorem dX6_stay_70 : decode bX6_stay 70 = .ok (.isub, 1) := by decide +kernel
theorem dX6_stay_71 : decode bX6_stay 71 = .ok (.istore_n 2, 1) := by decide +kernel
theorem dX6_stay_72 : decode bX6_stay 72 = .ok (.iconst 2, 1) := by decide +kernel
theorem dX6_stay_73 : decode bX6_stay 73 = .ok (.aload_n 0, 1) := by decide +kernel
theorem dX6_stay_74 : decode bX6_stay 74 = .ok (.getfield 19, 3) := by decide +kernel
theorem dX6_stay_77 : decode bX6_stay 77 = .ok (.imul, 1) := by decide +kernel
theorem dX6_stay_78 : decode bX6_stay 78 = .ok (.invokestatic 52, 3) := by decide +kernel
theorem dX6_stay_81 : decode bX6_stay 81 = .ok (.istore_n 3, 1) := by decide +kernel
theorem dX6_stay_82 : decode bX6_stay 82 = .ok (.iload_n 2, 1) := by decide +kernel
theorem dX6_stay_83 : decode bX6_stay 83 = .ok (.invokestatic 52, 3) := by decide +kernel
theorem dX6_stay_86 : decode bX6_stay 86 = .ok (.iload_n 3, 1) := by decide +kernel
theorem dX6_stay_87 : decode bX6_stay 87 = .ok (.invokestatic 56, 3) := by decide +kernel
theorem dX6_stay_90 : decode bX6_stay 90 = .ok (.istore 4, 2) := by decide +kernel
theorem dX6_stay_92 : decode bX6_stay 92 = .ok (.iload 4, 2) := by decide +kernel
theorem dX6_stay_94 : decode bX6_stay 94 = .ok (.ifCond .ne 5, 3) := by decide +kernel
theorem dX6_stay_97 : decode bX6_stay 97 = .ok (.iconst 0, 1) := by decide +kernel
theorem dX6_stay_98 : decode bX6_stay 98 = .ok (.ireturn, 1) := by decide +kernel
theorem dX6_stay_99 : decode bX6_stay 99 = .ok (.aload_n 1, 1) := by decide +kernel
theorem dX6_stay_100 : decode bX6_stay 100 = .ok (.iload_n 2, 1) := by decide +kernel
theorem dX6_stay_101 : decode bX6_stay 101 = .ok (.iload 4, 2) := by decide +kernel
theorem dX6_stay_103 : decode bX6_stay 103 = .ok (.idiv, 1) := by decide +kernel
theorem dX6_stay_104 : decode bX6_stay 104 = .ok (.putfield 39, 3) := by decide +kernel
theorem dX6_stay_107 : decode bX6_stay 107 = .ok (.aload_n 1, 1) := by decide +kernel
theorem dX6_stay_108 : decode bX6_stay 108 = .ok (.iload_n 3, 1) := by decide +kernel
theorem dX6_stay_109 : decode bX6_stay 109 = .ok (.iload 4, 2) := by decide +kernel
theorem dX6_stay_111 : decode bX6_stay 111 = .ok (.idiv, 1) := by decide +kernel
theorem dX6_stay_112 : decode bX6_stay 112 = .ok (.putfield 42, 3) := by decide +kernel
theorem dX6_stay_115 : decode bX6_stay 115 = .ok (.aload_n 1, 1) := by decide +kernel
theorem dX6_stay_116 : decode bX6_stay 116 = .ok (.getfield 39, 3) := by decide +kernel
theorem dX6_stay_119 : decode bX6_stay 119 = .ok (.invokestatic 61, 3) := by decide +kernel
theorem dX6_stay_122 : decode bX6_stay 122 = .ok (.ifCond .eq 17, 3) := by decide +kernel
theorem dX6_stay_125 : decode bX6_stay 125 = .ok (.aload_n 1, 1) := by decide +kernel
theorem dX6_stay_126 : decode bX6_stay 126 = .ok (.getfield 42, 3) := by decide +kernel
theorem dX6_stay_129 : decode bX6_stay 129 = .ok (.invokestatic 61, 3) := by decide +kernel
theorem dX6_stay_132 : decode bX6_stay 132 = .ok (.ifCond .eq 7, 3) := by decide +kernel
theorem dX6_stay_135 : decode bX6_stay 135 = .ok (.iconst 1, 1) := by decide +kernel
theorem dX6_stay_136 : decode bX6_stay 136 = .ok (.goto 4, 3) := by decide +kernel
theorem dX6_stay_139 : decode bX6_stay 139 = .ok (.iconst 0, 1) := by decide +kernel
theorem dX6_stay_140 : decode bX6_stay 140 = .ok (.ireturn, 1) := by decide +kernel
set_option maxRecDepth 20000 in
set_option maxHeartbeats 4000000 in
theorem cX6_stay {l : Launch} {k : Kx} {F : Nat} {this : Nat} {a1 : Nat} {μ μ' : Mm} {r : Int32} (hk : kok k) (e_this : kex k 6 this) (e_a1 : kex k 5 a1) (hf : fX6_stay F this a1 μ = some (r, μ')) : MM l k 1 yX6_stay bX6_stay 5 (some .int) [.ref (kad k 6 this), .ref (kad k 5 a1)] μ (some (.int r)) μ' := by
  refine MM.of (lv := [(0, .ref (kad k 6 this)), (1, .ref (kad k 5 a1))]) (plainFor_of_name (by decide)) hk (Nat.le_of_ble_eq_true rfl) rfl (fun z hl hx => ?_)
  subst hl
  have hx : Ok z k bX6_stay 5 "RopeDance$Table" (some .int) 1 (0, 0) := hx
  have L71 : ∀ (v0 : Nat) (v1 : Nat) (s0 : Int32) (μ : Mm) (e_v0 : kex k 6 v0) (e_v1 : kex k 5 v1), fX6_stay_L71 F v0 v1 s0 μ = some (r, μ') → Gw z k 5 (k, (0, 0), (some .int), (some (.int r)), μ') (0, 0) 71 μ [(0, .ref (kad k 6 v0)), (1, .ref (kad k 5 v1))] [.int s0] := by
    intro  v0 v1 s0 μ e_v0 e_v1 hf
    unfold fX6_stay_L71 at hf
    refine r_istoren (lv' := [(2, .int s0), (0, .ref (kad k 6 v0)), (1, .ref (kad k 5 v1))]) hx rfl (Nat.le_of_ble_eq_true rfl) rfl dX6_stay_71 ?_
    refine r_iconst hx ci_2 dX6_stay_72 ?_
    refine r_aloadn hx 1 rfl rfl dX6_stay_73 ?_
    refine r_getI hx FK6_2 e_v0 wf_X6_19 dX6_stay_74 ?_
    refine r_imul hx dX6_stay_77 ?_
    refine r_mabs hx wm_X6_52 xws_abs xwm xwk_abs ⟨Nat.le_refl _, Nat.le_refl _⟩ (Nat.le_of_ble_eq_true rfl) (Nat.le_of_ble_eq_true rfl) dX6_stay_78 ?_
    refine r_istoren (lv' := [(3, .int (ab (2 * (gi μ 6 v0 2)))), (2, .int s0), (0, .ref (kad k 6 v0)), (1, .ref (kad k 5 v1))]) hx rfl (Nat.le_of_ble_eq_true rfl) rfl dX6_stay_81 ?_
    refine r_iloadn hx 1 rfl rfl dX6_stay_82 ?_
    refine r_mabs hx wm_X6_52 xws_abs xwm xwk_abs ⟨Nat.le_refl _, Nat.le_refl _⟩ (Nat.le_of_ble_eq_true rfl) (Nat.le_of_ble_eq_true rfl) dX6_stay_83 ?_
    refine r_iloadn hx 0 rfl rfl dX6_stay_86 ?_
    obtain ⟨r15, μ14, c13, hf⟩ := f_bd2 hf
    refine r_callSN hx (As := [.int (ab s0), .int (ab (2 * (gi μ 6 v0 2)))]) (rest := []) (st1 := [.int r15]) MK_X11_greatest ws_X11_greatest ⟨Nat.le_refl _, Nat.le_refl _⟩ (cX11_greatest hk c13) (Nat.le_of_ble_eq_true rfl) rfl rfl (Nat.le_of_ble_eq_true rfl) rfl dX6_stay_87 (fun hb16 => ?_)
    refine r_istore (lv' := [(4, .int r15), (3, .int (ab (2 * (gi μ 6 v0 2)))), (2, .int s0), (0, .ref (kad k 6 v0)), (1, .ref (kad k 5 v1))]) hx (Nat.le_of_ble_eq_true rfl) rfl dX6_stay_90 ?_
    refine r_iload hx 0 rfl dX6_stay_92 ?_
    refine r_ifne (tgt := 99) hx rfl dX6_stay_94 (fun q17 => ?_) (fun q17 => ?_)
    · have hf := (f_ite hf).2 q17
      refine r_aloadn hx 4 rfl rfl dX6_stay_99 ?_
      refine r_iloadn hx 2 rfl rfl dX6_stay_100 ?_
      refine r_iload hx 0 rfl dX6_stay_101 ?_
      obtain ⟨q18, hf⟩ := f_nz hf
      refine r_idiv hx q18 dX6_stay_103 ?_
      refine r_putI (ty := .int) hx FK5_0 (fun T N h => by cases h; rfl) e_v1 wf_X6_39 (by decide +kernel) rfl rfl dX6_stay_104 ?_
      refine r_aloadn hx 4 rfl rfl dX6_stay_107 ?_
      refine r_iloadn hx 1 rfl rfl dX6_stay_108 ?_
      refine r_iload hx 0 rfl dX6_stay_109 ?_
      obtain ⟨q19, hf⟩ := f_nz hf
      refine r_idiv hx q19 dX6_stay_111 ?_
      refine r_putI (ty := .int) hx FK5_1 (fun T N h => by cases h; rfl) e_v1 wf_X6_42 (by decide +kernel) rfl rfl dX6_stay_112 ?_
      refine r_aloadn hx 4 rfl rfl dX6_stay_115 ?_
      refine r_getI hx FK5_0 e_v1 wf_X6_39 dX6_stay_116 ?_
      obtain ⟨r22, μ21, c20, hf⟩ := f_bd2 hf
      refine r_callS hx (As := [.int (gi (si (si μ14 5 v1 0 (s0 / r15)) 5 v1 1 ((ab (2 * (gi μ 6 v0 2))) / r15)) 5 v1 0)]) (rest := []) (st1 := [.int r22]) MK_X5_isTangle ws_X5_isTangle wm_X6_61 ⟨Nat.le_refl _, Nat.le_refl _⟩ (cX5_isTangle hk c20) (Nat.le_of_ble_eq_true rfl) rfl rfl (Nat.le_of_ble_eq_true rfl) rfl dX6_stay_119 (fun hb23 => ?_)
      refine r_ifeq (tgt := 139) hx rfl dX6_stay_122 (fun q24 => ?_) (fun q24 => ?_)
      · have hf := (f_ite hf).1 q24
        refine r_iconst hx ci_0 dX6_stay_139 ?_
        exact r_iret hx hf dX6_stay_140
      · have hf := (f_ite hf).2 q24
        refine r_aloadn hx 4 rfl rfl dX6_stay_125 ?_
        refine r_getI hx FK5_1 e_v1 wf_X6_42 dX6_stay_126 ?_
        obtain ⟨r27, μ26, c25, hf⟩ := f_bd2 hf
        refine r_callS hx (As := [.int (gi μ21 5 v1 1)]) (rest := []) (st1 := [.int r27]) MK_X5_isTangle ws_X5_isTangle wm_X6_61 ⟨Nat.le_refl _, Nat.le_refl _⟩ (cX5_isTangle hk c25) (Nat.le_of_ble_eq_true rfl) rfl rfl (Nat.le_of_ble_eq_true rfl) rfl dX6_stay_129 (fun hb28 => ?_)
        refine r_ifeq (tgt := 139) hx rfl dX6_stay_132 (fun q29 => ?_) (fun q29 => ?_)
        · have hf := (f_ite hf).1 q29
          refine r_iconst hx ci_0 dX6_stay_139 ?_
          exact r_iret hx hf dX6_stay_140
        · have hf := (f_ite hf).2 q29
          refine r_iconst hx ci_1 dX6_stay_135 ?_
          refine r_goto (tgt := 140) hx rfl dX6_stay_136 ?_
          exact r_iret hx hf dX6_stay_140
    · have hf := (f_ite hf).1 q17
      refine r_iconst hx ci_0 dX6_stay_97 ?_
      exact r_iret hx hf dX6_stay_98
  unfold fX6_stay at hf
  refine r_aloadn hx 1 rfl rfl dX6_stay_0 ?_
  refine r_iconst hx ci_1 dX6_stay_1 ?_
  refine r_putI (ty := .int) hx FK5_0 (fun T N h => by cases h; rfl) e_a1 wf_X6_39 (by decide +kernel) rfl rfl dX6_stay_2 ?_
  refine r_aloadn hx 1 rfl rfl dX6_stay_5 ?_
  refine r_iconst hx ci_0 dX6_stay_6 ?_
  refine r_putI (ty := .int) hx FK5_1 (fun T N h => by cases h; rfl) e_a1 wf_X6_42 (by decide +kernel) rfl rfl dX6_stay_7 ?_
  refine r_aloadn hx 0 rfl rfl dX6_stay_10 ?_
  obtain ⟨r3, μ2, c1, hf⟩ := f_bd2 hf
  refine r_callV hx (As := []) (rest := []) (st1 := [.int r3]) (c := 6) (i := this) (TT := T6) (N := 4) MK_X6_isNothing rfl wi_X6_isNothing we_X6_isNothing wm_X6_45 ⟨Nat.le_refl _, Nat.le_refl _⟩ (cX6_isNothing hk e_this c1) e_this (Nat.le_of_ble_eq_true rfl) rfl rfl (Nat.le_of_ble_eq_true rfl) rfl dX6_stay_11 (fun hb4 => ?_)
  refine r_ifeq (tgt := 21) hx rfl dX6_stay_14 (fun q5 => ?_) (fun q5 => ?_)
  · have hf := (f_ite hf).1 q5
    refine r_aloadn hx 0 rfl rfl dX6_stay_21 ?_
    obtain ⟨r8, μ7, c6, hf⟩ := f_bd2 hf
    refine r_callV hx (As := []) (rest := []) (st1 := [.int r8]) (c := 6) (i := this) (TT := T6) (N := 4) MK_X6_trace rfl wi_X6_trace we_X6_trace wm_X6_49 ⟨Nat.le_refl _, Nat.le_refl _⟩ (cX6_trace hk e_this c6) e_this (Nat.le_of_ble_eq_true rfl) rfl rfl (Nat.le_of_ble_eq_true rfl) rfl dX6_stay_22 (fun hb9 => ?_)
    refine r_mabs hx wm_X6_52 xws_abs xwm xwk_abs ⟨Nat.le_refl _, Nat.le_refl _⟩ (Nat.le_of_ble_eq_true rfl) (Nat.le_of_ble_eq_true rfl) dX6_stay_25 ?_
    refine r_iconst hx ci_2 dX6_stay_28 ?_
    refine r_iceq (tgt := 34) hx rfl dX6_stay_29 (fun q10 => ?_) (fun q10 => ?_)
    · have hf := (f_ite hf).1 q10
      refine r_aloadn hx 0 rfl rfl dX6_stay_34 ?_
      refine r_getI hx FK6_2 e_this wf_X6_19 dX6_stay_35 ?_
      refine r_ifne (tgt := 43) hx rfl dX6_stay_38 (fun q11 => ?_) (fun q11 => ?_)
      · have hf := (f_ite hf).2 q11
        refine r_aloadn hx 0 rfl rfl dX6_stay_43 ?_
        refine r_getI hx FK6_2 e_this wf_X6_19 dX6_stay_44 ?_
        refine r_ifle (tgt := 62) hx rfl dX6_stay_47 (fun q12 => ?_) (fun q12 => ?_)
        · have hf := (f_ite hf).1 q12
          refine r_aloadn hx 0 rfl rfl dX6_stay_62 ?_
          refine r_getI hx FK6_3 e_this wf_X6_13 dX6_stay_63 ?_
          refine r_aloadn hx 0 rfl rfl dX6_stay_66 ?_
          refine r_getI hx FK6_0 e_this wf_X6_7 dX6_stay_67 ?_
          refine r_isub hx dX6_stay_70 ?_
          refine r_sub [0, 1] rfl ?_
          exact L71  this a1 ((gi μ7 6 this 3) - (gi μ7 6 this 0)) μ7 e_this e_a1 hf
        · have hf := (f_ite hf).2 q12
          refine r_aloadn hx 0 rfl rfl dX6_stay_50 ?_
          refine r_getI hx FK6_0 e_this wf_X6_7 dX6_stay_51 ?_
          refine r_aloadn hx 0 rfl rfl dX6_stay_54 ?_
          refine r_getI hx FK6_3 e_this wf_X6_13 dX6_stay_55 ?_
          refine r_isub hx dX6_stay_58 ?_
          refine r_goto (tgt := 71) hx rfl dX6_stay_59 ?_
          refine r_sub [0, 1] rfl ?_
          exact L71  this a1 ((gi μ7 6 this 0) - (gi μ7 6 this 3)) μ7 e_this e_a1 hf
      · have hf := (f_ite hf).1 q11
        refine r_iconst hx ci_1 dX6_stay_41 ?_
        exact r_iret hx hf dX6_stay_42
    · have hf := (f_ite hf).2 q10
      refine r_iconst hx ci_0 dX6_stay_32 ?_
      exact r_iret hx hf dX6_stay_33
  · have hf := (f_ite hf).2 q5
    refine r_sipush hx cs_12016 dX6_stay_17 ?_
    exact r_iret hx hf dX6_stay_20
