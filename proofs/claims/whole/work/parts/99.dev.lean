/-! PURE: minutes, undo, hold, restore; the tape; what is told -/
theorem gi_ne {μ : Mm} {c i j c' i' j' : Nat} {v : Int32} (h : ¬ (c' = c ∧ i' = i ∧ j' = j)) : gi (si μ c i j v) c' i' j' = gi μ c' i' j' := by
  rw [gi_si, if_neg h]
theorem gi_eq {μ : Mm} {c i j : Nat} {v : Int32} : gi (si μ c i j v) c i j = v := by
  rw [gi_si, if_pos ⟨rfl, rfl, rfl⟩]
theorem mnS_z {X : Xt} {seed : Int32} {e : Es} {i : Nat} (hi : xn X ≤ i) : (mnS X seed e).1 i = e.1 i := by
  show (goS X seed (xn X) 0 e).1 i = _
  rw [goS_sq, if_neg (by omega)]
theorem mnI_z {X : Xt} {seed : Int32} {i : Nat} (hi : xn X ≤ i) : ∀ (k : Nat) (e : Es), (mnI X seed k e).1 i = e.1 i
  | 0, _ => rfl
  | k + 1, e => (mnI_z hi k _).trans (mnS_z hi)
theorem mnI_G {X : Xt} {seed : Int32} {k : Nat} {e : Es} (hX : Xok X) (h : eG (xn X) e) : eG (xn X) (mnI X seed k e) :=
  ⟨mnI_ok hX k e h.1, fun i h1 h2 => by
    rw [mnI_z h1]
    exact h.2 i h1 h2⟩
theorem p_minC {F T N : Nat} {X : Xt} (hF : 1000 ≤ F) (hT : T < 2) (hX : Xok X) (hN : N ≤ 60) : ∀ (d n i : Nat) (μ : Mm) (e : Es), i + d = N → d < n → gi μ 11 0 2 = nI T → CT μ T X → EC μ e → eOk e → ∃ μ', fX11_minutes_L29 F n (nI N) (nI i) μ = some ((mnI X (xs X) d e).2.1, μ') ∧ ag Sm μ μ' ∧ EC μ' (mnI X (xs X) d e)
  | _, 0, _, _, _, _, h, _, _, _, _ => absurd h (Nat.not_lt_zero _)
  | 0, n + 1, i, μ, e, h1, h2, ht, hC, hE, ho => by
    rw [fX11_minutes_L29, if_pos (by rw [nn_le (by omega) (by omega)]; omega), hE.2.1]
    exact ⟨μ, rfl, ag_rfl, hE⟩
  | d + 1, n + 1, i, μ, e, h1, h2, ht, hC, hE, ho => by
    rw [fX11_minutes_L29, if_neg (by rw [nn_le (by omega) (by omega)]; omega), ht, tx_nI hT]
    obtain ⟨μ1, a1, a2, a3⟩ := p_eveC (F := F) hF hT hX hC hE ho
    rw [a1, bd1_s, nn_s]
    obtain ⟨μ', r1, r2, r3⟩ := p_minC hF hT hX hN d n (i + 1) μ1 (mnS X (xs X) e) (by omega) (by omega) ((ag_n a2 (by unfold Sm; omega)).trans ht) (CT_ag hT hX a2 Tc_Sm hC) a3 (mnS_ok hX ho)
    exact ⟨μ', r1, ag_tr a2 r2, r3⟩
theorem Sm_Dn : ∀ c i j, Sm c i j → Dn c i j := fun c i j h => by
  unfold Sm at h
  unfold Dn SC
  omega
theorem o_minutes {F : Nat} (hF : 1000 ≤ F) (a : Int32) : st2 Inv (fX11_minutes F a) (fX12_minutes F a) := fun u s μ ν q => by
  obtain ⟨T, S, X, e, q1, q2, q3⟩ := id q
  unfold fX11_minutes fX12_minutes fX12_isLong
  have e60 : (60 : Int32).toInt = 60 := rfl
  by_cases w0 : a.toInt < 0
  · rw [if_pos (i_lt0.mpr w0), p_in0 (x := 0) (y := 60) rfl rfl (by omega), bd2_s, bd2_s, if_pos rfl]
    exact ⟨_, μ, ν, rfl, rfl, q⟩
  · rw [if_neg (fun z => w0 (i_lt0.mp z))]
    by_cases w1 : a.toInt ≤ 60
    · rw [if_pos (show a ≤ 60 from i_le.mpr w1), p_in1 (x := 0) (y := 60) rfl rfl (by omega), bd2_s, bd2_s, if_neg n1_0]
      by_cases w2 : a = 0
      · rw [if_pos (show a ≤ 0 by rw [w2]; decide), if_pos w2, w2]
        unfold fX11_minutes_L27
        have hF' : F = (F - 1) + 1 := by omega
        rw [show fX11_minutes_L29 F F 0 0 μ = fX11_minutes_L29 F ((F - 1) + 1) 0 0 μ by rw [← hF'], fX11_minutes_L29, if_pos (by decide), q2.1.2.1, ← q2.2.1.2.2.1]
        exact ⟨_, μ, ν, rfl, rfl, q⟩
      · have w3 : a.toInt ≠ 0 := fun z => w2 (i_eq0.mpr z)
        have wn : ¬ a ≤ 0 := fun z => by
          have := i_le0.mp z
          omega
        rw [if_neg wn, if_neg w2]
        obtain ⟨μ', r1, r2, r3⟩ := p_fin (F := F) hF q1 q2 q3
        rw [r1, bd1_s]
        unfold fX11_minutes_L27
        have hT := q1.1
        have hX := q1.2.2.1
        have ea : a = nI a.toInt.toNat := nn_get (by omega)
        obtain ⟨μ2, m1, m2, m3⟩ := p_minC (F := F) (T := T) (X := X) hF hT hX (N := a.toInt.toNat) (by omega) a.toInt.toNat F 0 μ' e (by omega) (by omega) ((ag_n r2 (by unfold Dh; omega)).trans q1.2.2.2.1) (CT_ag hT hX r2 (fun c i j w z => by unfold Tc at w; unfold Dh at z; omega) q1.2.2.2.2.2.2.1) (EC_ag r2 (fun i j h => by unfold Dh; omega) ⟨by unfold Dh; omega, by unfold Dh; omega⟩ q2.1) q2.2.2.1
        rw [← ea] at m1
        rw [show (0 : Int32) = nI 0 from rfl, m1]
        obtain ⟨ν1, c1, c2, c3, c4⟩ := p_cop (F := F) hF q1.2.1 q1.2.2.2.2.2.1 q1.2.2.2.2.2.2.2.1
        obtain ⟨ν2, g1, g2, g3⟩ := p_goes (F := F) (S := S) (X := X) (seed := xs X) hF q1.2.1 hX (N := a.toInt.toNat) (by omega) a.toInt.toNat F 0 ν1 e (by omega) (by omega) (live_SR c2 q1.2.2.2.2.2.1) (RT_SR c2 q1.2.2.2.2.2.2.2.1) c4 (RW_c hX.1 (fun z hz => c3 z hz) q2.2.1) q2.2.2.1
        rw [← ea] at g1
        unfold fX12_goes
        rw [c1, bd1_s, show (0 : Int32) = nI 0 from rfl, g1, bd1_s]
        obtain ⟨ν', b1, b2, b3⟩ := r3 _ μ2 ν2 (ag_of m2 Sm_Dn) m3 (ag_tr c2 (ag_of g2 Pm_SR)) g3 (mnI_G hX q2.2.2)
        rw [b1, bd1_s, b3 12 (by omega), g3.2.2.1]
        exact ⟨_, μ2, ν', rfl, rfl, b2⟩
    · rw [if_neg (fun z => w1 (show a.toInt ≤ (60 : Int32).toInt from i_le.mp z)), p_in0 (x := 0) (y := 60) rfl rfl (by omega), bd2_s, bd2_s, if_pos rfl]
      exact ⟨_, μ, ν, rfl, rfl, q⟩
theorem p_undoL {F U : Nat} (hU : U < 40) : ∀ (d n i : Nat) (ν : Mm), i + d = 14 → d < n → gi ν 12 0 50 = nI U → fX12_undo_L21 F n (nI i) ν = some (1, bw ν 75 0 i 14 (fun z => gi ν 79 0 (14 * U + z)))
  | _, 0, _, _, _, h, _ => absurd h (Nat.not_lt_zero _)
  | 0, n + 1, i, ν, h1, h2, hu => by
    rw [fX12_undo_L21, show (14 : Int32) = nI 14 from rfl, if_pos (by rw [nn_le (by omega) (by omega)]; omega), bw_0 (by omega)]
  | d + 1, n + 1, i, ν, h1, h2, hu => by
    rw [fX12_undo_L21, show (14 : Int32) = nI 14 from rfl, if_neg (by rw [nn_le (by omega) (by omega)]; omega), hu, nn_mul, nn_add, if_pos ((nn_inb (by omega)).mpr (by omega)), if_pos ((nn_inb (by omega)).mpr (by omega)), nn_cl (by omega), nn_cl (by omega), nn_s, p_undoL hU d n (i + 1) _ (by omega) (by omega) (by rw [gi_si, if_neg (by omega)]; exact hu)]
    have e : bw (si ν 75 0 i (gi ν 79 0 (14 * U + i))) 75 0 (i + 1) 14 (fun z => gi (si ν 75 0 i (gi ν 79 0 (14 * U + i))) 79 0 (14 * U + z)) = bw ν 75 0 i 14 (fun z => gi ν 79 0 (14 * U + z)) :=
      bw_s (g := fun z => gi ν 79 0 (14 * U + z)) (by omega) rfl (fun z _ _ => by show gi (si _ _ _ _ _) _ _ _ = _; rw [gi_si, if_neg (by omega)])
    rw [e]
theorem St_DC : ∀ c i j, St c i j → DC c i j := fun c i j h => by
  unfold St at h
  unfold DC
  omega
theorem o_undo {F : Nat} (hF : 1000 ≤ F) : st2 Inv (fX11_undo F) (fX12_undo F) := fun u s μ ν q => by
  obtain ⟨T, S, X, e, q1, q2, q3⟩ := id q
  obtain ⟨L, nx, hs, b1, b2, b3, b4, b5, b6⟩ := q3
  have hn := q1.2.2.1.1
  unfold fX11_undo fX12_undo fX1_takeBack
  rw [b3, b5]
  by_cases hL : L = 0
  · rw [if_pos (by rw [hL]; rfl), if_pos (by rw [hL]; rfl), bd2_s]
    exact ⟨_, μ, ν, rfl, rfl, q⟩
  · have hL' : ¬ nI L = 0 := by
      rw [show (0 : Int32) = nI 0 from rfl, nn_inj (by omega) (by omega)]
      exact hL
    rw [if_neg hL', if_neg hL', b4, show (40 : Int32) = nI 40 from rfl, nn_add, show (1 : Int32) = nI 1 from rfl, nn_sub (by omega), nn_irm (by omega) (by omega), gi_ne (c' := 1) (j' := 0) (by omega), b3, nn_sub (by omega)]
    generalize hm : si (si μ 1 0 1 (nI ((nx + 40 - 1) % 40))) 1 0 0 (nI (L - 1)) = m
    have m1 : gi m 1 0 1 = nI ((nx + 40 - 1) % 40) := by
      rw [← hm, gi_si, if_neg (by omega), gi_si, if_pos ⟨rfl, rfl, rfl⟩]
    have m0 : gi m 1 0 0 = nI (L - 1) := by
      rw [← hm, gi_si, if_pos ⟨rfl, rfl, rfl⟩]
    have am : ag (fun c _ j => c = 1 ∧ (j = 0 ∨ j = 1)) μ m := by
      rw [← hm]
      exact ag_tr (ag_si ⟨rfl, Or.inr rfl⟩) (ag_si ⟨rfl, Or.inl rfl⟩)
    rw [m1, if_pos ((nn_inb (by omega)).mpr (by omega)), nn_cl (by omega)]
    obtain ⟨c1, c2, c3⟩ := b6 (L - 1) (by omega)
    rw [show (nx + 40 - L + (L - 1)) % 40 = (nx + 40 - 1) % 40 by omega] at c1
    obtain ⟨μ', t1, t2, t3⟩ := p_take (F := F) hF (EA_ag (fun j => ag_n am (by omega)) c1)
    rw [t1, bd1_s, bd2_s, show (0 : Int32) = nI 0 from rfl, p_undoL (U := L - 1) (by omega) 14 F 0 _ rfl (by omega) (by rw [gi_si, if_pos ⟨rfl, rfl, rfl⟩])]
    refine ⟨_, μ', _, rfl, rfl, T, S, X, hs (L - 1), IB_ag (ν := ν) (ag_tr (ag_of am (fun c i j w => by unfold DC; omega)) (ag_of t2 St_DC)) (⟨fun c i j w => by
      unfold DR at w
      rw [gi_bw, if_neg (by omega), gi_si, if_neg (by omega)], fun _ _ _ => rfl⟩) q1, ⟨t3, RW_c hn (fun z hz => by rw [gi_bw, if_pos (by omega), gi_si, if_neg (by omega)]) c2, c3⟩, L - 1, (nx + 40 - 1) % 40, hs, by omega, by omega, (ag_n t2 (by unfold St; omega)).trans m0, (ag_n t2 (by unfold St; omega)).trans m1, by rw [gi_bw, if_neg (by omega), gi_si, if_pos ⟨rfl, rfl, rfl⟩], fun i hi => ?_⟩
    obtain ⟨d1, d2, d3⟩ := b6 i (by omega)
    rw [show ((nx + 40 - 1) % 40 + 40 - (L - 1) + i) % 40 = (nx + 40 - L + i) % 40 by omega]
    exact ⟨EA_ag (fun j => (ag_n t2 (by unfold St; omega)).trans (ag_n am (by omega))) d1, RW_c hn (fun z hz => by rw [gi_bw, if_neg (by omega), gi_si, if_neg (by omega)]) d2, d3⟩
/-! the other blocks -/
def DG (c i j : Nat) : Prop := c = 23 ∨ c = 92 ∨ c = 7 ∨ c = 29 ∨ c = 9 ∨ (41 ≤ c ∧ c ≤ 43) ∨ DC c i j
def RG (c i j : Nat) : Prop := c = 90 ∨ c = 91 ∨ (c = 12 ∧ (j = 2 ∨ j = 66)) ∨ c = 48 ∨ (84 ≤ c ∧ c ≤ 86) ∨ DR c i j
theorem IB_gen {T S : Nat} {X : Xt} {u s : Bool} {μ μ' ν ν' : Mm} (h1 : ag DG μ μ') (h2 : ag RG ν ν') (hSL : SL (xn X) μ' ν') (hTA : TA μ' ν') (hTO : TO μ' ν') (q : IB T S X u s μ ν) : IB T S X u s μ' ν' := by
  obtain ⟨a1, a2, a3, a4, a5, a6, a7, a8, a9, a10, a11, a12, a13, a14, a15, a16⟩ := q
  have n1 : ∀ {c i j}, ¬ DG c i j → gi μ' c i j = gi μ c i j := fun h => ag_n h1 h
  have n2 : ∀ {c i j}, ¬ RG c i j → gi ν' c i j = gi ν c i j := fun h => ag_n h2 h
  refine ⟨a1, a2, a3, (n1 (by unfold DG DC SC; omega)).trans a4, (n1 (by unfold DG DC SC; omega)).trans a5, (n2 (by unfold RG DR SR; omega)).trans a6, CT_ag a1 a3 h1 (fun c i j w z => by unfold Tc at w; unfold DG DC SC at z; omega) a7, RT_of (fun c j g1 g2 => n2 (by unfold RG DR SR; omega)) a8, hSL, hTA, ?_, hTO, fun t ht => ?_, fun k hk => (h2.2 _ _ _).trans (a14 k hk), UI_ag (n1 (by unfold DG DC SC; omega)) (fun j => ⟨n1 (by unfold DG DC SC; omega), n1 (by unfold DG DC SC; omega)⟩) a15, SI_ag (n1 (by unfold DG DC SC; omega)) ⟨n1 (by unfold DG DC SC; omega), n1 (by unfold DG DC SC; omega)⟩ (fun j => ⟨n1 (by unfold DG DC SC; omega), n1 (by unfold DG DC SC; omega)⟩) a16⟩
  · rw [n1 (by unfold DG DC SC; omega), n2 (by unfold RG DR SR; omega)]
    exact a11
  · rw [n2 (by unfold RG DR SR; omega), n2 (by unfold RG DR SR; omega)]
    exact a13 t ht
theorem IE_ag {n : Nat} {e : Es} {P Q : Nat → Nat → Nat → Prop} {μ μ' ν ν' : Mm} (hn : n ≤ 4) (h1 : ag P μ μ') (h2 : ag Q ν ν') (g1 : ∀ c i j, P c i j → ¬ (c = 5 ∧ i < 4) ∧ c ≠ 0) (g2 : ∀ c i j, Q c i j → c ≠ 75) (q : IE n e μ ν) : IE n e μ' ν' :=
  ⟨EC_ag h1 (fun i j h w => (g1 _ _ _ w).1 ⟨rfl, h⟩) ⟨fun w => (g1 _ _ _ w).2 rfl, fun w => (g1 _ _ _ w).2 rfl⟩ q.1, RW_c hn (fun z _ => ag_n h2 (fun w => g2 _ _ _ w rfl)) q.2.1, q.2.2⟩
theorem HI_ag {n : Nat} {P Q : Nat → Nat → Nat → Prop} {μ μ' ν ν' : Mm} (hn : n ≤ 4) (h1 : ag P μ μ') (h2 : ag Q ν ν') (g1 : ∀ c i j, P c i j → ¬ (c = 92 ∧ i < 40) ∧ c ≠ 1) (g2 : ∀ c i j, Q c i j → c ≠ 79 ∧ ¬ (c = 12 ∧ j = 50)) (q : HI n μ ν) : HI n μ' ν' := by
  obtain ⟨L, nx, hs, b1, b2, b3, b4, b5, b6⟩ := q
  refine ⟨L, nx, hs, b1, b2, (ag_n h1 (fun w => (g1 _ _ _ w).2 rfl)).trans b3, (ag_n h1 (fun w => (g1 _ _ _ w).2 rfl)).trans b4, (ag_n h2 (fun w => (g2 _ _ _ w).2 ⟨rfl, rfl⟩)).trans b5, fun i hi => ?_⟩
  obtain ⟨c1, c2, c3⟩ := b6 i hi
  exact ⟨EA_ag (fun j => ag_n h1 (fun w => (g1 _ _ _ w).1 ⟨rfl, by omega⟩)) c1, RW_c hn (fun z _ => ag_n h2 (fun w => (g2 _ _ _ w).1 rfl)) c2, c3⟩
theorem p_holdL {F s : Nat} (hs : s < 3) : ∀ (d n i : Nat) (ν : Mm), i + d = 14 → d < n → fX12_hold_L20 F n (nI s) (nI i) ν = some (1, bw ν 91 0 (14 * s + i) (14 * s + 14) (fun z => gi ν 75 0 (z - 14 * s)))
  | _, 0, _, _, _, h => absurd h (Nat.not_lt_zero _)
  | 0, n + 1, i, ν, h1, h2 => by
    rw [fX12_hold_L20, show (14 : Int32) = nI 14 from rfl, if_pos (by rw [nn_le (by omega) (by omega)]; omega), bw_0 (by omega)]
  | d + 1, n + 1, i, ν, h1, h2 => by
    rw [fX12_hold_L20, show (14 : Int32) = nI 14 from rfl, if_neg (by rw [nn_le (by omega) (by omega)]; omega), nn_mul, nn_add, if_pos ((nn_inb (by omega)).mpr (by omega)), if_pos ((nn_inb (by omega)).mpr (by omega)), nn_cl (by omega), nn_cl (by omega), nn_s, p_holdL hs d n (i + 1) _ (by omega) (by omega)]
    have e : bw (si ν 91 0 (14 * s + i) (gi ν 75 0 i)) 91 0 (14 * s + (i + 1)) (14 * s + 14) (fun z => gi (si ν 91 0 (14 * s + i) (gi ν 75 0 i)) 75 0 (z - 14 * s)) = bw ν 91 0 (14 * s + i) (14 * s + 14) (fun z => gi ν 75 0 (z - 14 * s)) :=
      bw_s (g := fun z => gi ν 75 0 (z - 14 * s)) (by omega) (by show gi ν 75 0 i = gi ν 75 0 (14 * s + i - 14 * s); rw [Nat.add_sub_cancel_left]) (fun z _ _ => by show gi (si _ _ _ _ _) _ _ _ = _; rw [gi_si, if_neg (by omega)])
    rw [e]
theorem o_hold {F : Nat} (hF : 1000 ≤ F) (a : Int32) : st2 Inv (fX11_hold F a) (fX12_hold F a) := fun u s μ ν q => by
  obtain ⟨T, S, X, e, q1, q2, q3⟩ := id q
  have hn := q1.2.2.1.1
  unfold fX11_hold fX12_hold fX1_keep
  by_cases w0 : a.toInt < 0
  · rw [if_pos (i_lt0.mpr w0), bd2_s, p_in0 (x := 0) (y := 2) rfl rfl (by omega), bd2_s, if_pos rfl]
    exact ⟨_, μ, ν, rfl, rfl, q⟩
  · rw [if_neg (fun z => w0 (i_lt0.mp z))]
    by_cases w1 : a.toInt < 3
    · have i3 : inb a 3 = true := by
        rw [i_inb]
        omega
      rw [if_pos (show a < 3 from i_lt.mpr w1), if_pos i3, p_in1 (x := 0) (y := 2) rfl rfl (by omega), bd2_s, if_neg n1_0, if_pos i3]
      obtain ⟨k, hk, rfl⟩ : ∃ k, k < 3 ∧ a = nI k := ⟨a.toInt.toNat, by omega, nn_get (by omega)⟩
      rw [nn_cl (by omega)]
      obtain ⟨μ', p1, p2, p3⟩ := p_put (F := F) (a := 40 + k) hF q2.1
      rw [p1, bd1_s, bd2_s, show (0 : Int32) = nI 0 from rfl, p_holdL hk 14 F 0 _ rfl (by omega), show vp_nar .boolean 1 = 1 from rfl]
      have am : ag (fun c i j => c = 23 ∨ (c = 92 ∧ 40 ≤ i)) μ (si μ' 23 0 k 1) := ag_tr (ag_of p2 (fun c i j w => Or.inr ⟨w.1, by omega⟩)) (ag_si (Or.inl rfl))
      have ar : ag (fun c i j => c = 90 ∨ c = 91) ν (bw (si ν 90 0 k 1) 91 0 (14 * k + 0) (14 * k + 14) (fun z => gi (si ν 90 0 k 1) 75 0 (z - 14 * k))) := ⟨fun c i j w => by
        rw [gi_bw, if_neg (by omega), gi_si, if_neg (by omega)], fun _ _ _ => rfl⟩
      obtain ⟨a1, a2, a3, a4, a5, a6, a7, a8, a9, a10, a11, a12, _⟩ := id q1
      refine ⟨_, _, _, rfl, rfl, T, S, X, e, IB_gen (ag_of am (fun c i j w => by unfold DG; omega)) (ag_of ar (fun c i j w => by unfold RG; omega)) (fun t ht => ?_) (TA_ag (ag_n am (by omega)) (ag_n ar (by omega)) (fun j => ag_n am (by omega)) (fun j => ag_n ar (by omega)) a10) (TO_ag (ag_n am (by omega)) (ag_n ar (by omega)) (fun c j g1 g2 => ag_n am (by omega)) (fun c j g1 g2 => ag_n ar (by omega)) a12) q1, IE_ag hn am ar (fun c i j w => by omega) (fun c i j w => by omega) q2, HI_ag hn am ar (fun c i j w => by omega) (fun c i j w => by omega) q3⟩
      by_cases htk : t = k
      · subst htk
        rw [gi_si, if_pos ⟨rfl, rfl, rfl⟩, gi_bw, if_neg (by omega), gi_si, if_pos ⟨rfl, rfl, rfl⟩]
        refine ⟨rfl, Or.inr rfl, fun _ => ⟨e, EA_ag (fun j => by rw [gi_si, if_neg (by omega)]) p3, RW_c hn (fun z hz => ?_) q2.2.1, q2.2.2⟩⟩
        rw [gi_bw, if_pos (by omega), gi_si, if_neg (by omega), Nat.add_sub_cancel_left]
      · obtain ⟨d1, d2, d3⟩ := a9 t ht
        rw [gi_si, if_neg (by omega), ag_n p2 (by omega), gi_bw, if_neg (by omega), gi_si, if_neg (by omega)]
        refine ⟨d1, d2, fun w => ?_⟩
        obtain ⟨e2, f1, f2, f3⟩ := d3 w
        exact ⟨e2, EA_ag (fun j => by rw [gi_si, if_neg (by omega), ag_n p2 (by omega)]) f1, RW_c hn (fun z hz => by rw [gi_bw, if_neg (by omega), gi_si, if_neg (by omega)]) f2, f3⟩
    · rw [if_neg (fun z => w1 (show a.toInt < (3 : Int32).toInt from i_lt.mp z)), bd2_s, p_in0 (x := 0) (y := 2) rfl rfl (by omega), bd2_s, if_pos rfl]
      exact ⟨_, μ, ν, rfl, rfl, q⟩
theorem p_restL {F s : Nat} (hs : s < 3) : ∀ (d n i : Nat) (ν : Mm), i + d = 14 → d < n → fX12_restore_L22 F n (nI s) (nI i) ν = some (1, si (bw ν 75 0 i 14 (fun z => gi ν 91 0 (14 * s + z))) 12 0 50 0)
  | _, 0, _, _, _, h => absurd h (Nat.not_lt_zero _)
  | 0, n + 1, i, ν, h1, h2 => by
    rw [fX12_restore_L22, show (14 : Int32) = nI 14 from rfl, if_pos (by rw [nn_le (by omega) (by omega)]; omega), bw_0 (by omega)]
  | d + 1, n + 1, i, ν, h1, h2 => by
    rw [fX12_restore_L22, show (14 : Int32) = nI 14 from rfl, if_neg (by rw [nn_le (by omega) (by omega)]; omega), nn_mul, nn_add, if_pos ((nn_inb (by omega)).mpr (by omega)), if_pos ((nn_inb (by omega)).mpr (by omega)), nn_cl (by omega), nn_cl (by omega), nn_s, p_restL hs d n (i + 1) _ (by omega) (by omega)]
    have e : bw (si ν 75 0 i (gi ν 91 0 (14 * s + i))) 75 0 (i + 1) 14 (fun z => gi (si ν 75 0 i (gi ν 91 0 (14 * s + i))) 91 0 (14 * s + z)) = bw ν 75 0 i 14 (fun z => gi ν 91 0 (14 * s + z)) :=
      bw_s (g := fun z => gi ν 91 0 (14 * s + z)) (by omega) rfl (fun z _ _ => by show gi (si _ _ _ _ _) _ _ _ = _; rw [gi_si, if_neg (by omega)])
    rw [e]
theorem o_restore {F : Nat} (hF : 1000 ≤ F) (a : Int32) : st2 Inv (fX11_restore F a) (fX12_restore F a) := fun u s μ ν q => by
  obtain ⟨T, S, X, e, q1, q2, q3⟩ := id q
  have hn := q1.2.2.1.1
  unfold fX11_restore fX12_restore fX1_goOn
  by_cases w0 : a.toInt < 0
  · rw [if_pos (i_lt0.mpr w0), bd2_s, p_in0 (x := 0) (y := 2) rfl rfl (by omega), bd2_s, if_pos rfl]
    exact ⟨_, μ, ν, rfl, rfl, q⟩
  · rw [if_neg (fun z => w0 (i_lt0.mp z))]
    by_cases w1 : a.toInt < 3
    · have i3 : inb a 3 = true := by
        rw [i_inb]
        omega
      have n3 : ¬ (3 : Int32) ≤ a := fun z => by
        have z' : (3 : Int32).toInt ≤ a.toInt := i_le.mp z
        rw [show (3 : Int32).toInt = 3 from rfl] at z'
        omega
      rw [if_neg n3, if_pos i3, p_in1 (x := 0) (y := 2) rfl rfl (by omega), bd2_s, if_neg n1_0, if_pos i3]
      obtain ⟨k, hk, rfl⟩ : ∃ k, k < 3 ∧ a = nI k := ⟨a.toInt.toNat, by omega, nn_get (by omega)⟩
      rw [nn_cl (by omega)]
      obtain ⟨d1, d2, d3⟩ := q1.2.2.2.2.2.2.2.2.1 k hk
      rw [← d1]
      rcases d2 with d2 | d2
      · rw [if_pos d2, if_pos d2, bd2_s]
        exact ⟨_, μ, ν, rfl, rfl, q⟩
      · rw [if_neg (by rw [d2]; decide), if_neg (by rw [d2]; decide)]
        obtain ⟨e2, f1, f2, f3⟩ := d3 d2
        obtain ⟨μ', t1, t2, t3⟩ := p_take (F := F) hF f1
        rw [t1, bd1_s, bd2_s, show (0 : Int32) = nI 0 from rfl, p_restL hk 14 F 0 _ rfl (by omega)]
        obtain ⟨L, nx, hs, b1, b2, b3, b4, b5, b6⟩ := q3
        refine ⟨_, _, _, rfl, rfl, T, S, X, e2, IB_ag (ν := ν) (ag_tr (ag_of t2 St_DC) (ag_si (by unfold DC; omega))) ⟨fun c i j w => by
          unfold DR at w
          rw [gi_si, if_neg (by omega), gi_bw, if_neg (by omega)], fun _ _ _ => rfl⟩ q1, ⟨EC_ag (P := fun c i j => c = 1) (ag_si rfl) (fun i j h => by omega) ⟨by omega, by omega⟩ t3, RW_c hn (fun z hz => by rw [gi_si, if_neg (by omega), gi_bw, if_pos (by omega)]) f2, f3⟩, 0, nx, hs, by omega, b2, by rw [gi_si, if_pos ⟨rfl, rfl, rfl⟩], by rw [gi_si, if_neg (by omega), ag_n t2 (by unfold St; omega)]; exact b4, by rw [gi_si, if_pos ⟨rfl, rfl, rfl⟩]; rfl, fun i hi => absurd hi (Nat.not_lt_zero _)⟩
    · have n3 : (3 : Int32) ≤ a := i_le.mpr (by rw [show (3 : Int32).toInt = 3 from rfl]; omega)
      rw [if_pos n3, bd2_s, p_in0 (x := 0) (y := 2) rfl rfl (by omega), bd2_s, if_pos rfl]
      exact ⟨_, μ, ν, rfl, rfl, q⟩
