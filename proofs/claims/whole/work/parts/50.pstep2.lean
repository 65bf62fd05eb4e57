theorem nn_m {a : Nat} (h : 1 ≤ a) : nI a + (-1) = nI (a - 1) := by
  rw [← Int32.sub_eq_add_neg]
  exact nn_sub h
theorem p_end {F V c k : Nat} {g y : Int32} {μ ν : Mm} {KC : Int32 → Int32 → Int32 → Int32 → Mm → Option (Int32 × Mm)} {KR : Int32 → Int32 → Int32 → Mm → Option (Int32 × Mm)} (hv : tV (g, y)) (hc : c ≤ V) (hV : V < 2147483648) (h : g ≠ 0 → c < V → ∃ r, KC (tnS (g, y)).1 (tnS (g, y)).2 (nI (V - (c + 1))) (nI (k + 1)) μ = some (r, μ) ∧ KR (nI V) (enc (tnS (g, y))) (nI (c + 1)) ν = some (r, ν)) : ∃ r, fX10_thing_L69 F KC y (nI (V - c)) (nI k) g μ = some (r, μ) ∧ fX12_step_L106 F KR (nI V) (enc (g, y)) (nI c) ν = some (r, ν) := by
  unfold fX10_thing_L69 fX12_step_L106
  by_cases w : g = 0
  · rw [if_pos w, if_pos ((enc_300 hv).mpr w)]
    exact ⟨_, rfl, rfl⟩
  rw [if_neg w, if_neg (fun z => w ((enc_300 hv).mp z))]
  by_cases e : c = V
  · rw [e, if_pos (c := nI (V - V) = 0) (by rw [Nat.sub_self]; rfl), if_pos rfl]
    exact ⟨_, rfl, rfl⟩
  obtain ⟨r, x, z⟩ := h w (by omega)
  have mk : mk1 (2, 0) (g, y) = some (tnS (g, y)) := by
    unfold mk1
    rw [if_pos rfl]
  have md := p_madeBy (F := F) (ν := ν) (w := (2, 0)) (Or.inl rfl) hv
  rw [mk] at md
  rw [if_neg (c := nI (V - c) = 0) (by rw [show (0 : Int32) = nI 0 from rfl, nn_inj (by omega) (by omega)]; omega), if_neg (c := nI c = nI V) (by rw [nn_inj (by omega) (by omega)]; exact e), show fX12_madeBy F (enc (g, y)) 2 0 ν = some (enc (tnS (g, y)), ν) from md, bd2_s, nn_s, z, nn_m (by omega)]
  unfold fX10_thing_L102
  refine ⟨r, ?_, rfl⟩
  rw [← x, nn_s, show V - c - 1 = V - (c + 1) by omega]
  have g1 := hv.1
  have hg : g.toInt ≠ 0 := fun z => w (i_eq0.mpr z)
  unfold tnS
  by_cases s : g.toInt < 0
  · rw [if_pos (i_le0.mpr (by omega)), if_pos s, ab_neg s (by have : -99 ≤ g.toInt := g1; omega)]
  · rw [if_neg (fun z => by have := i_le0.mp z; omega), if_neg s, if_pos (show 0 < g.toInt by omega), ab_pos (by omega)]
theorem p_thing {F V : Nat} {μ ν : Mm} (hV : V < 2147483648) (hU : UW μ) (hR : RU ν) : ∀ (m : Nat) (t : Tg) (c k n n' : Nat), tV t → t.2.toInt.toNat < m → (t.2.toInt = 0 → 3 ≤ m) → c ≤ V → k + m ≤ 102 → m ≤ n → m ≤ n' → ∃ r, fX10_thing_L12 F n t.1 t.2 (nI (V - c)) (nI k) μ = some (r, μ) ∧ fX12_step_L26 F n' (nI V) (enc t) (nI c) ν = some (r, ν)
  | 0, _, _, _, _, _, _, h, _, _, _, _, _ => absurd h (Nat.not_lt_zero _)
  | m + 1, t, c, k, n, n', hv, hm, h0, hc, hk, hn, hn' => by
    obtain ⟨n, rfl⟩ : ∃ x, n = x + 1 := ⟨n - 1, by omega⟩
    obtain ⟨n', rfl⟩ : ∃ x, n' = x + 1 := ⟨n' - 1, by omega⟩
    have h3 := hv.2.2.1
    have hk100 : ¬ (100 : Int32) < nI k := by
      rw [show (100 : Int32) = nI 100 from rfl, nn_lt (by omega) (by omega)]
      by_cases z : t.2.toInt = 0
      · have := h0 z
        omega
      · omega
    obtain ⟨g1, g2, g3⟩ := tV_glS hv
    -- what follows when c' of the turns of the one ends are told
    have fol : ∀ c', c' ≤ V → ∃ r, fX10_thing_L69 F (fun v4 v5 v6 v7 μ => fX10_thing_L12 F n v4 v5 v6 v7 μ) t.2 (nI (V - c')) (nI k) (glS t) μ = some (r, μ) ∧ fX12_step_L106 F (fun v2 v3 v4 μ => fX12_step_L26 F n' v2 v3 v4 μ) (nI V) (enc (glS t, t.2)) (nI c') ν = some (r, ν) := fun c' hc' => by
      refine p_end g1 hc' hV (fun w hl => ?_)
      have mk : mk1 (2, 0) (glS t, t.2) = some (tnS (glS t, t.2)) := by
        unfold mk1
        rw [if_pos rfl]
      have tt : tV (tnS (glS t, t.2)) := tV_mk1 (Or.inl rfl) g1 mk
      have gn : (glS t).toInt ≠ 0 := fun z => w (i_eq0.mpr z)
      have q2 : (tnS (glS t, t.2)).2.toInt = (glS t).toInt.natAbs := by
        have := g1.1
        unfold tnS
        by_cases s : (glS t).toInt < 0
        · rw [if_pos (show (glS t, t.2).1.toInt < 0 from s)]
          show (-(glS t)).toInt = _
          rw [tz_neg (by have : -99 ≤ (glS t).toInt := g1.1; omega)]
          omega
        · rw [if_neg (show ¬ (glS t, t.2).1.toInt < 0 from s), if_pos (show 0 < (glS t, t.2).1.toInt by show 0 < (glS t).toInt; omega)]
          show (glS t).toInt = _
          omega
      refine p_thing hV hU hR m (tnS (glS t, t.2)) (c' + 1) (k + 1) n n' tt ?_ (fun z => by omega) (by omega) (by omega) (by omega) (by omega)
      rw [q2]
      by_cases z : t.2.toInt = 0
      · have := h0 z
        rw [g3 z]
        show 1 < m
        omega
      · have := g2 z
        omega
    rw [fX10_thing_L12, fX12_step_L26, if_neg hk100, if_neg (c := nI (V - c) < 0) (nn_neg (by omega)), p_goalC hv hU, bd2_s, p_under hv, bd2_s]
    by_cases z : t.2.toInt = 0
    · have z2 : t.2 = 0 := i_eq0.mpr z
      have e1 : t.1 = 1 := i_eq.mpr (hv.2.2.2.2.2 z)
      have e300 : ¬ enc t = 300 := fun y => by
        have := (enc_300 hv).mp y
        rw [e1] at this
        exact absurd this (by decide)
      have et : (glS t, t.2) = t := by
        rw [g3 z, ← e1]
      rw [if_neg e300, if_pos z2, if_pos z2]
      unfold fX10_thing_L51 fX12_step_L53 fX12_step_L74 fX12_step_L93
      rw [if_pos rfl, if_pos z2, if_pos rfl, if_pos (by rw [z2]; decide)]
      obtain ⟨r, x, y⟩ := fol c hc
      rw [et] at y
      exact ⟨r, x, y⟩
    · have hq : 0 < t.2.toInt := by omega
      have z2 : ¬ t.2 = 0 := fun y => z (i_eq0.mp y)
      have z3 : ¬ t.2 ≤ 0 := fun y => by
        have := i_le0.mp y
        omega
      rw [if_neg z2, if_neg z2, if_neg z2]
      by_cases e300 : enc t = 300
      · have p0 : t.1 = 0 := (enc_300 hv).mp e300
        have p0' := i_eq0.mp p0
        have gz : glS t = 0 := by
          unfold glS
          rw [if_neg z, if_pos (show gR t = 0 by unfold gR; rw [p0', Int.zero_emod]; rfl)]
        have kz : ((glS t - t.1) / t.2) = 0 := by
          rw [gz, p0, i_eq0, Int32.toInt_div]
          rw [show ((0 : Int32) - 0).toInt = 0 from rfl, Int.zero_tdiv]
          rfl
        rw [if_pos e300, kz]
        unfold fX10_thing_L51 fX10_thing_L69
        rw [if_pos rfl, if_pos gz]
        exact ⟨_, rfl, rfl⟩
      rw [if_neg e300, p_goalR hv hq hR, bd2_s]
      unfold fX12_step_L53
      rw [if_neg z2, p_over hv, bd2_s, if_neg z2]
      unfold fX10_thing_L51 fX12_step_L74 fX12_step_L93
      by_cases kz : (glS t - t.1) / t.2 = 0
      · rw [if_pos kz, if_pos kz, if_neg z3]
        exact fol c hc
      rw [if_neg kz, if_neg kz]
      by_cases e : c = V
      · rw [e, if_pos (c := nI (V - V) = 0) (by rw [Nat.sub_self]; rfl), if_pos rfl]
        exact ⟨_, rfl, rfl⟩
      rw [if_neg (c := nI (V - c) = 0) (by rw [show (0 : Int32) = nI 0 from rfl, nn_inj (by omega) (by omega)]; omega), if_neg (c := nI c = nI V) (by rw [nn_inj (by omega) (by omega)]; exact e), if_neg z3, nn_s, nn_m (by omega), show V - c - 1 = V - (c + 1) by omega]
      exact fol (c + 1) (by omega)
theorem o_step {F : Nat} (hF : 1000 ≤ F) (a b : Int32) : mkU Inv (fX11_step F a b) (fX11_step_n F a b) (fX11_step_a F a b) (fX12_step F a b) := by
  refine mk_U (fc := fun p q => fX10_thing F p q b) hF (fun T S X e s u μ ν μ' i q1 q2 hi ha hr hU tv => ?_) (fun ν hr => ?_)
  · obtain ⟨t1, t2, t3, t4, t5, t6, t7⟩ := IE_sq q2 hi q1.2.2.1.1
    have h4 := q1.2.2.1.1
    have hR := q1.2.2.2.2.2.2.2.2.2.2.2.2.1
    unfold fX12_step fX10_thing
    rw [hr, bd2_s, if_neg n1_0, ha, if_pos ((nn_inb (by omega)).mpr (by omega)), nn_cl (by omega), t5, ← t1, show gi μ 5 i 0 = (tgC μ i).1 from rfl, show gi μ 5 i 1 = (tgC μ i).2 from rfl]
    by_cases w : 0 ≤ b
    · have w' := i_0le.mp w
      have vb : b = nI b.toInt.toNat := nn_get w'
      have vl : b.toInt.toNat < 2147483648 := by
        have := Int32.toInt_lt b
        omega
      rw [if_pos w]
      have h99 := tv.2.2.2.1
      obtain ⟨r, x, y⟩ := p_thing (F := F) (V := b.toInt.toNat) (μ := μ') (ν := ν) vl hU hR 101 (tgC μ i) 0 0 F F tv (by omega) (fun _ => by omega) (by omega) (by omega) (by omega) (by omega)
      rw [Nat.sub_zero, ← vb] at x
      rw [← vb] at y
      exact ⟨r, x, y⟩
    · have w' : b.toInt < 0 := by
        rw [i_0le] at w
        omega
      obtain ⟨n, hn⟩ : ∃ n, F = n + 1 := ⟨F - 1, by omega⟩
      rw [if_neg w, show fX10_thing_L12 F F (tgC μ i).1 (tgC μ i).2 b 0 μ' = fX10_thing_L12 F (n + 1) (tgC μ i).1 (tgC μ i).2 b 0 μ' by rw [← hn], fX10_thing_L12, if_neg (by decide), if_pos (i_lt0.mpr w')]
      exact ⟨_, rfl, rfl⟩
  · unfold fX12_step
    rw [hr, bd2_s, if_pos rfl]
