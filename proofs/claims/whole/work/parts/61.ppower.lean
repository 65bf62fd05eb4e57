/-! PURE: powers, by doublings -/
theorem nn_and1 {e : Nat} (h : e < 2147483648) : nI e &&& 1 = nI (e % 2) := pk_andN (n := e) (by omega) (m := 1) 1 (by decide)
theorem nn_irm2 {e : Nat} (h : e < 2147483648) : irm (nI e) 2 = nI (e % 2) := by
  rw [show (2 : Int32) = nI 2 from rfl, nn_irm h (by decide)]
theorem nn_sh1 {e : Nat} (h : e < 2147483648) : nI e >>> ((1 : Int32) &&& 31) = nI (e / 2) := pk_shrN (n := e) (by omega) _ 1 (by decide)
theorem nn_d2 {e : Nat} (h : e < 2147483648) : nI e / 2 = nI (e / 2) := by
  rw [show (2 : Int32) = nI 2 from rfl, nn_div h (by decide)]
theorem p_powL {F m : Nat} {v4 : Int32} (h1 : 2 ≤ m) (h2 : m ≤ 97) : ∀ (k n e : Nat) (μ ν : Mm) (B P : Tb), e < 2 ^ k → e < 2147483648 → k < n → tbC μ 19 = B → tbC μ 18 = P → gi ν 12 0 61 = nI m → tbR ν = B → tbP ν = P → pNN B → pNN P → 0 ≤ v4.toInt → v4.toInt ≤ 3 → ∃ x μ' ν', fX11_power_L65 F n (nI m) v4 (nI e) μ = some (x, μ') ∧ fX12_power_L51 F n v4 (nI e) ν = some (x, ν') ∧ ag (fun c i _ => c = 6 ∧ (i = 18 ∨ i = 19)) μ μ' ∧ ag (fun c i j => c = 12 ∧ 57 ≤ j ∧ j ≤ 65) ν ν'
  | _, 0, _, _, _, _, _, _, _, h, _, _, _, _, _, _, _, _, _ => absurd h (Nat.not_lt_zero _)
  | k, n + 1, e, μ, ν, B, P, he, he2, hn, hB, hP, hm, hB', hP', nB, nP, v0, v3 => by
    rw [fX11_power_L65, fX12_power_L51]
    by_cases e0 : e = 0
    · unfold fX6_part
      rw [if_pos (show nI e ≤ 0 by rw [e0]; decide), if_pos (show nI e ≤ 0 by rw [e0]; decide), show gi μ 6 18 0 = P.1 from congrArg (fun t => t.1) hP, show gi μ 6 18 1 = P.2.1 from congrArg (fun t => t.2.1) hP, show gi μ 6 18 2 = P.2.2.1 from congrArg (fun t => t.2.2.1) hP, show gi μ 6 18 3 = P.2.2.2 from congrArg (fun t => t.2.2.2) hP, show gi ν 12 0 62 = P.1 from congrArg (fun t => t.1) hP', show gi ν 12 0 63 = P.2.1 from congrArg (fun t => t.2.1) hP', show gi ν 12 0 64 = P.2.2.1 from congrArg (fun t => t.2.2.1) hP', show gi ν 12 0 65 = P.2.2.2 from congrArg (fun t => t.2.2.2) hP']
      by_cases b0 : v4 = 0
      · rw [if_pos b0, if_pos b0, bd2_s]
        exact ⟨_, μ, ν, rfl, rfl, ag_rfl, ag_rfl⟩
      rw [if_neg b0, if_neg b0]
      by_cases b1 : v4 = 1
      · rw [if_pos b1, if_pos b1, bd2_s]
        exact ⟨_, μ, ν, rfl, rfl, ag_rfl, ag_rfl⟩
      rw [if_neg b1, if_neg b1]
      by_cases b2 : v4 = 2
      · rw [if_pos b2, if_pos b2, bd2_s]
        exact ⟨_, μ, ν, rfl, rfl, ag_rfl, ag_rfl⟩
      rw [if_neg b2, if_neg b2, bd2_s]
      exact ⟨_, μ, ν, rfl, rfl, ag_rfl, ag_rfl⟩
    obtain ⟨k', rfl⟩ : ∃ x, k = x + 1 := ⟨k - 1, by
      rcases Nat.eq_zero_or_pos k with z | z
      · rw [z] at he
        simp at he
        exact absurd he e0
      · omega⟩
    have he' : e / 2 < 2 ^ k' := by
      rw [Nat.pow_succ] at he
      omega
    -- the doubling, and what follows
    have dbl : ∀ (μ1 ν1 : Mm) (Q : Tb), ag (fun c i _ => c = 6 ∧ (i = 18 ∨ i = 19)) μ μ1 → ag (fun c i j => c = 12 ∧ 57 ≤ j ∧ j ≤ 65) ν ν1 → tbC μ1 19 = B → tbC μ1 18 = Q → gi ν1 12 0 61 = nI m → tbR ν1 = B → tbP ν1 = Q → pNN Q → ∃ x μ' ν', fX11_power_L105 F (fun v3 v4 v6 μ => fX11_power_L65 F n v3 v4 v6 μ) (nI m) v4 (nI e) μ1 = some (x, μ') ∧ fX12_power_L68 F (fun v4 v5 μ => fX12_power_L51 F n v4 v5 μ) v4 (nI e) ν1 = some (x, ν') ∧ ag (fun c i _ => c = 6 ∧ (i = 18 ∨ i = 19)) μ μ' ∧ ag (fun c i j => c = 12 ∧ 57 ≤ j ∧ j ≤ 65) ν ν' := fun μ1 ν1 Q g1 g2 x1 x2 x3 x4 x5 nQ => by
      obtain ⟨μ2, a1, a2, a3⟩ := p_bm (F := F) (k := 19) (x := 19) (y := 19) (μ := μ1) (m := m) (by omega) h2 (by rw [x1]; exact (pNN_bd nB).2) (by rw [x1]; exact (pNN_bd nB).1)
      obtain ⟨ν2, b1, b2, b3⟩ := p_db (F := F) (by omega) h2 x3 x4 nB
      have tP : tbP ν2 = tbP ν1 := by
        unfold tbP
        rw [ag_n b2 (by omega), ag_n b2 (by omega), ag_n b2 (by omega), ag_n b2 (by omega)]
      rw [x1] at a3
      unfold fX11_power_L105 fX12_power_L68
      rw [b1, bd1_s]
      obtain ⟨x, μ', ν', y1, y2, y3, y4⟩ := p_powL (F := F) (v4 := v4) h1 h2 k' n (e / 2) μ2 ν2 _ Q he' (by omega) (by omega) a3 ((tbC_ag a2 (by omega)).trans x2) ((ag_n b2 (by omega)).trans x3) b3 (tP.trans x5) (rmT_nn (by omega) h2) nQ v0 v3
      refine ⟨x, μ', ν', ?_, ?_, ag_tr (ag_tr g1 (ag_of a2 (fun c i j w => ⟨w.1, Or.inr w.2⟩))) y3, ag_tr (ag_tr g2 (ag_of b2 (fun c i j w => by omega))) y4⟩
      · rw [a1, nn_sh1 he2]
        exact y1
      · rw [nn_d2 he2]
        exact y2
    rw [if_neg (nn_le0 (by omega) he2), if_neg (nn_le0 (by omega) he2), nn_and1 he2, nn_irm2 he2]
    by_cases odd : e % 2 = 1
    · rw [odd, show nI 1 = (1 : Int32) from rfl, if_pos rfl, if_pos rfl]
      obtain ⟨μ1, a1, a2, a3⟩ := p_bm (F := F) (k := 18) (x := 18) (y := 19) (μ := μ) (m := m) (by omega) h2 (by rw [hB]; exact (pNN_bd nB).2) (by rw [hP]; exact (pNN_bd nP).1)
      obtain ⟨ν1, b1, b2, b3⟩ := p_pt (F := F) (by omega) h2 hm hB' hP' nB nP
      rw [hB, hP] at a3
      have tR : tbR ν1 = tbR ν := by
        unfold tbR
        rw [ag_n b2 (by omega), ag_n b2 (by omega), ag_n b2 (by omega), ag_n b2 (by omega)]
      rw [a1, b1, bd1_s]
      exact dbl μ1 ν1 _ (ag_of a2 (fun c i j w => ⟨w.1, Or.inl w.2⟩)) (ag_of b2 (fun c i j w => by omega)) ((tbC_ag a2 (by omega)).trans hB) a3 ((ag_n b2 (by omega)).trans hm) (tR.trans hB') b3 (rmT_nn (by omega) h2)
    · have ev : e % 2 = 0 := by omega
      rw [ev, if_neg (show ¬ nI 0 = 1 by decide), if_neg (show ¬ nI 0 = 1 by decide)]
      exact dbl μ ν P ag_rfl ag_rfl hB hP hm hB' hP' nP
theorem o_power {F : Nat} (hF : 100000 ≤ F) (a n b d : Int32) : st2 Inv (fX11_power F a n b d) (fX12_power F a n b d) := fun u s μ ν q => by
  obtain ⟨T, S, X, e, q1, q2, q3⟩ := id q
  obtain ⟨a1, a2, a3, a4, a5, a6, a7, a8, _⟩ := id q1
  have hm5 := a3.2.1
  unfold fX11_power fX12_power fX11_isDivisor fX12_isBase
  rcases p_fig (F := F) q1 a with ⟨f, hf, rfl, hc, hr⟩ | ⟨hc, hr⟩
  · rw [hc, hr, bd2_s, bd2_s, oel_s, if_neg n1_0]
    by_cases e0 : n.toInt < 0
    · rw [if_pos (i_lt0.mpr e0), p_in0 (x := 0) (y := 1000000000) rfl rfl (by omega), bd2_s, if_pos rfl]
      exact ⟨_, μ, ν, rfl, rfl, q⟩
    rw [if_neg (c := n < 0) (fun z => e0 (i_lt0.mp z))]
    by_cases e1 : 1000000000 < n.toInt
    · rw [if_pos (show 1000000000 < n from i_lt.mpr e1), p_in0 (x := 0) (y := 1000000000) rfl rfl (by omega), bd2_s, if_pos rfl]
      exact ⟨_, μ, ν, rfl, rfl, q⟩
    rw [if_neg (c := 1000000000 < n) (fun z => e1 (show (1000000000 : Int32).toInt < n.toInt from i_lt.mp z)), p_in1 (x := 0) (y := 1000000000) rfl rfl (by omega), bd2_s, if_neg n1_0]
    by_cases w1 : b.toInt < 2
    · rw [if_pos (show b < 2 from i_lt.mpr w1), p_in0 (x := 2) (y := 97) rfl rfl (by omega), bd2_s, bd2_s, bd2_s, if_pos rfl, if_pos rfl]
      exact ⟨_, μ, ν, rfl, rfl, q⟩
    rw [if_neg (c := b < 2) (fun z => w1 (show b.toInt < (2 : Int32).toInt from i_lt.mp z))]
    by_cases w2 : 97 < b.toInt
    · rw [if_pos (show 97 < b from i_lt.mpr w2), p_in0 (x := 2) (y := 97) rfl rfl (by omega), bd2_s, bd2_s, bd2_s, if_pos rfl, if_pos rfl]
      exact ⟨_, μ, ν, rfl, rfl, q⟩
    rw [if_neg (c := 97 < b) (fun z => w2 (show (97 : Int32).toInt < b.toInt from i_lt.mp z)), p_in1 (x := 2) (y := 97) rfl rfl (by omega), bd2_s, bd2_s, bd2_s, if_neg n1_0, if_neg n1_0]
    by_cases d0 : d.toInt < 0
    · rw [if_pos (i_lt0.mpr d0), p_in0 (x := 0) (y := 3) rfl rfl (by omega), bd2_s, if_pos rfl]
      exact ⟨_, μ, ν, rfl, rfl, q⟩
    rw [if_neg (c := d < 0) (fun z => d0 (i_lt0.mp z))]
    by_cases d3 : d.toInt ≤ 3
    · rw [if_pos (show d ≤ 3 from i_le.mpr d3), p_in1 (x := 0) (y := 3) rfl rfl (by omega), bd2_s, if_neg n1_0]
      obtain ⟨m, hm1, hm2, rfl⟩ : ∃ m, 2 ≤ m ∧ m ≤ 97 ∧ b = nI m := ⟨b.toInt.toNat, by omega, by omega, nn_get (by omega)⟩
      obtain ⟨E, hE, rfl⟩ : ∃ E, E ≤ 1000000000 ∧ n = nI E := ⟨n.toInt.toNat, by omega, nn_get (by omega)⟩
      rw [p_tof (by omega) a2 a3 hf a6 a8, bd1_s]
      obtain ⟨ν1, r1, r2, r3, r4, r5⟩ := p_rb (F := F) (ν := ptb ν (tF X f)) hm1 hm2 tbR_ptb
      obtain ⟨μ1, c1, c2, c3⟩ := p_rests (F := F) (k := 19) (x := 9 * T + 4 + f) (μ := μ) (m := m) (by omega) hm2
      rw [tbC_f a7 hf] at c3
      have cl : fX6_clear F 18 μ1 = some (si (si (si (si μ1 6 18 0 1) 6 18 1 0) 6 18 2 0) 6 18 3 1) := rfl
      have gc : ag (fun c i _ => c = 6 ∧ i = 18) μ1 (si (si (si (si μ1 6 18 0 1) 6 18 1 0) 6 18 2 0) 6 18 3 1) := ag_tr (ag_tr (ag_tr (ag_si ⟨rfl, rfl⟩) (ag_si ⟨rfl, rfl⟩)) (ag_si ⟨rfl, rfl⟩)) (ag_si ⟨rfl, rfl⟩)
      have t18 : tbC (si (si (si (si μ1 6 18 0 1) 6 18 1 0) 6 18 2 0) 6 18 3 1) 18 = tb0 := by
        unfold tbC tb0
        refine tb_ext ?_ ?_ ?_ ?_ <;> dsimp only
        · rw [gi_ne (by omega), gi_ne (by omega), gi_ne (by omega), gi_eq]
        · rw [gi_ne (by omega), gi_ne (by omega), gi_eq]
        · rw [gi_ne (by omega), gi_eq]
        · rw [gi_eq]
      obtain ⟨x, μ', ν', x1, x2, x3, x4⟩ := p_powL (F := F) (v4 := d) hm1 hm2 30 F E _ ν1 _ tb0 (show E < 2 ^ 30 by omega) (by omega) (by omega) ((tbC_ag gc (by omega)).trans c3) t18 r3 r4 r5 (rmT_nn (by omega) hm2) tb0_nn (by omega) d3
      rw [r1, bd1_s, c1, bd1_s, cl, bd1_s]
      exact ⟨x, μ', ν', x1, x2, Inv_scr (ag_tr (ag_tr (ag_of c2 (fun c i j w => by unfold SC; omega)) (ag_of gc (fun c i j w => by unfold SC; omega))) (ag_of x3 (fun c i j w => by unfold SC; omega))) (ag_tr ag_ptb (ag_of (ag_tr r2 x4) (fun c i j w => by unfold SR; omega))) q⟩
    · rw [if_neg (show ¬ d ≤ 3 from fun z => d3 (i_le.mp z)), p_in0 (x := 0) (y := 3) rfl rfl (by omega), bd2_s, if_pos rfl]
      exact ⟨_, μ, ν, rfl, rfl, q⟩
  · rw [hc, hr, bd2_s, bd2_s, oel_n, if_pos rfl]
    exact ⟨_, μ, ν, rfl, rfl, q⟩
