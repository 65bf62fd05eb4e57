theorem p_h14 {F T sq : Nat} {v3 v4 : Int32} : ∀ (d n i : Nat) (μ : Mm), i + d = 12 → d < n → fX9_hear_L14 F n T sq v3 v4 (nI i) μ = fX9_hear_L44 F F T sq v3 v4 1 1 (bw μ 45 0 i 12 (fun _ => 0))
  | _, 0, _, _, _, h => absurd h (Nat.not_lt_zero _)
  | 0, n + 1, i, μ, h1, h2 => by
    rw [fX9_hear_L14, show (12 : Int32) = nI 12 from rfl, if_pos (by rw [nn_le (by omega) (by omega)]; omega), bw_0 (by omega)]
  | d + 1, n + 1, i, μ, h1, h2 => by
    rw [fX9_hear_L14, show (12 : Int32) = nI 12 from rfl, if_neg (by rw [nn_le (by omega) (by omega)]; omega), if_pos ((nn_inb (by omega)).mpr (by omega)), nn_cl (by omega), nn_s, p_h14 d n (i + 1) _ (by omega) (by omega), bw_s (g := fun _ => 0) (by omega) rfl (fun _ _ _ => rfl)]
theorem p_h44 {F T sq w : Nat} {X : Xt} {v3 : Int32} {μ : Mm} (hX : Xok X) (hw : w ≤ 4) (hC : gi μ 8 T 1 = nI (xm X)) : ∀ (d n v6 v5 : Nat), v6 + d = w → d < n → v5 * 5 ^ d ≤ 625 → fX9_hear_L44 F n T sq v3 (nI w) (nI v5) (nI v6) μ = fX9_hear_L69 F F T sq v3 (nI w) (nI (v5 * xm X ^ d)) 0 μ
  | _, 0, _, _, _, h, _ => absurd h (Nat.not_lt_zero _)
  | 0, n + 1, v6, v5, h1, h2, hv => by
    rw [fX9_hear_L44, if_pos (by rw [nn_le (by omega) (by omega)]; omega), Nat.pow_zero, Nat.mul_one]
  | d + 1, n + 1, v6, v5, h1, h2, hv => by
    have hm5 := hX.2.1
    have e : v5 * xm X * 5 ^ d ≤ 625 := by
      rw [Nat.pow_succ, Nat.mul_comm (5 ^ d) 5, ← Nat.mul_assoc] at hv
      exact Nat.le_trans (Nat.mul_le_mul_right _ (Nat.mul_le_mul_left _ hm5)) hv
    rw [fX9_hear_L44, if_neg (by rw [nn_le (by omega) (by omega)]; omega), hC, nn_mul, nn_s, p_h44 hX hw hC d n (v6 + 1) (v5 * xm X) (by omega) (by omega) e, Nat.pow_succ, Nat.mul_comm (xm X ^ d), Nat.mul_assoc]
theorem p_hear {F T w k K sq : Nat} {X : Xt} {t : Tg} {μ : Mm} (hF : 1000 ≤ F) (hT : T < 2) (hX : Xok X) (hw1 : 1 ≤ w) (hw : w ≤ 4) (hk : k ≤ K) (hK : K ≤ 20) (hs : sq < 4) (ht : tV t) (h0 : ∀ j, j < K → 1 ≤ (gi μ 41 0 j).toInt ∧ (gi μ 41 0 j).toInt ≤ 4) (hC : CT μ T X) (hq : tgC μ sq = t) (h9 : gi μ 9 0 0 = nI K) : ∃ μ', fX9_hear F T sq (nI k) (nI w) μ = some μ' ∧ ag PH μ μ' ∧ HR μ' μ X w k t (xm X ^ w) := by
  have pb := pw_b (w := w) hX hw
  unfold fX9_hear
  generalize hμ1 : bw (si (si μ 9 0 1 0) 9 0 2 (-2)) 45 0 0 12 (fun _ => 0) = μ1
  have g : ag PH μ μ1 := by
    rw [← hμ1]
    exact ⟨fun c i j y => by
      unfold PH at y
      rw [gi_bw, if_neg (by omega), gi_ne (by omega), gi_ne (by omega)], fun _ _ _ => rfl⟩
  have n1 : ∀ {c i j}, ¬ PH c i j → gi μ1 c i j = gi μ c i j := fun h => ag_n g h
  have C1 := CT_ag hT hX g Tc_PH hC
  rw [show (0 : Int32) = nI 0 from rfl, p_h14 12 F 0 _ rfl (by omega), show (nI 0 : Int32) = 0 from rfl, hμ1, show (1 : Int32) = nI 1 from rfl, p_h44 hX hw C1.2.1 (w - 1) F 1 1 (by omega) (by omega) (by rw [Nat.one_mul]; exact Nat.le_trans (Nat.pow_le_pow_right (by omega) (show w - 1 ≤ 4 by omega)) (by decide)), Nat.one_mul]
  obtain ⟨μ', r1, r2, r3⟩ := p_hrL (F := F) (T := T) (w := w) (k := k) (K := K) (sq := sq) (X := X) (t := t) (μ0 := μ) hF hT hX hw1 hw hk hK hs ht h0 (xm X ^ w) F 0 μ1 (by omega) (by omega) C1 (by
    rw [← hq]
    unfold tgC
    rw [n1 (by unfold PH; omega), n1 (by unfold PH; omega)]) ((n1 (by unfold PH; omega)).trans h9) (fun c j a b => n1 (by unfold PH; omega)) ⟨by
    rw [← hμ1, gi_bw, if_neg (by omega), gi_ne (by omega), gi_eq]
    rfl, by
    rw [← hμ1, gi_bw, if_neg (by omega), gi_eq]
    rfl, fun z hz => by
    rw [← hμ1, gi_bw, if_pos (by omega)]
    rfl⟩
  exact ⟨μ', r1, ag_tr g r2, r3⟩
theorem o_rows {F : Nat} (hF : 1000 ≤ F) (a b c d : Int32) : st2 Inv (fX11_rows F a b c d) (fX12_rows F a b c d) := fun u s μ ν q => by
  obtain ⟨T, S, X, e, q1, q2, q3⟩ := id q
  obtain ⟨a1, a2, a3, a4, a5, a6, a7, a8, a9, a10, a11, a12, _⟩ := id q1
  have h4 := a3.1
  obtain ⟨K, hK, t1, t2, t3⟩ := a12
  unfold fX11_rows fX12_rows fX12_isAsked fX9_canHear
  rw [t2]
  have kT : (nI K).toInt = K := nI_toInt (by omega)
  rcases p_sq (F := F) q1 b with ⟨i, hi, rfl, hc, hr⟩ | ⟨hc, hr⟩
  · rw [hc, bd2_s, oel_s, t1]
    by_cases w1 : a.toInt < 0
    · rw [if_pos (i_lt0.mpr w1), p_in0 (x := 0) (y := K) rfl kT (by omega), bd2_s, bd2_s, if_pos rfl, if_pos rfl, bd2_s, if_pos rfl]
      exact ⟨_, μ, ν, rfl, rfl, q⟩
    rw [if_neg (c := a < 0) (fun z => w1 (i_lt0.mp z))]
    by_cases w2 : (K : Int) < a.toInt
    · rw [if_pos (show nI K < a from i_lt.mpr (by rw [kT]; exact w2)), p_in0 (x := 0) (y := K) rfl kT (by omega), bd2_s, bd2_s, if_pos rfl, if_pos rfl, bd2_s, if_pos rfl]
      exact ⟨_, μ, ν, rfl, rfl, q⟩
    rw [if_neg (c := nI K < a) (fun z => w2 (by have := i_lt.mp z; rw [kT] at this; exact this)), p_in1 (x := 0) (y := K) rfl kT (by omega), bd2_s, if_neg n1_0, hr, bd2_s, if_neg n1_0]
    by_cases w3 : c.toInt < 1
    · rw [if_pos (show c < 1 from i_lt.mpr w3), p_in0 (x := 1) (y := 4) rfl rfl (by omega), bd2_s, bd2_s, if_pos rfl, if_pos rfl, bd2_s, if_pos rfl]
      exact ⟨_, μ, ν, rfl, rfl, q⟩
    rw [if_neg (c := c < 1) (fun z => w3 (show c.toInt < (1 : Int32).toInt from i_lt.mp z))]
    by_cases w4 : 4 < c.toInt
    · rw [if_pos (show 4 < c from i_lt.mpr w4), p_in0 (x := 1) (y := 4) rfl rfl (by omega), bd2_s, bd2_s, if_pos rfl, if_pos rfl, bd2_s, if_pos rfl]
      exact ⟨_, μ, ν, rfl, rfl, q⟩
    rw [if_neg (c := 4 < c) (fun z => w4 (show (4 : Int32).toInt < c.toInt from i_lt.mp z)), p_in1 (x := 1) (y := 4) rfl rfl (by omega), bd2_s, bd2_s, if_neg n1_0, if_neg n1_0, bd2_s, if_neg n1_0]
    by_cases d0 : d.toInt < 0
    · rw [if_pos (i_lt0.mpr d0), p_in0 (x := 0) (y := 1) rfl rfl (by omega), bd2_s, if_pos rfl]
      exact ⟨_, μ, ν, rfl, rfl, q⟩
    rw [if_neg (c := d < 0) (fun z => d0 (i_lt0.mp z))]
    by_cases d1 : d.toInt ≤ 1
    · rw [if_pos (show d ≤ 1 from i_le.mpr d1), p_in1 (x := 0) (y := 1) rfl rfl (by omega), bd2_s, if_neg n1_0]
      obtain ⟨k, hk, rfl⟩ : ∃ k, k ≤ K ∧ a = nI k := ⟨a.toInt.toNat, by omega, nn_get (by omega)⟩
      obtain ⟨w, hw1, hw, rfl⟩ : ∃ w, 1 ≤ w ∧ w ≤ 4 ∧ c = nI w := ⟨c.toInt.toNat, by omega, by omega, nn_get (by omega)⟩
      obtain ⟨y1, y2, y3, y4, y5, _⟩ := IE_sq q2 hi h4
      have hv : tV (tgC μ i) := by rw [y1]; exact y4.1
      obtain ⟨μ', r1, r2, r3⟩ := p_hear (F := F) (T := T) (w := w) (k := k) (K := K) (sq := i) (X := X) (t := tgC μ i) hF a1 a3 hw1 hw hk hK (by omega) hv (fun j hj => (t3 j hj).1.2) a7 rfl t1
      have pb := pw_b (w := w) a3 hw
      obtain ⟨ν', s1, s2⟩ := p_rowsR (F := F) (S := S) (s := i) (w := w) (k := k) (K := K) (t := tgC μ i) (μ := μ) (v4 := d) hF a3 a2 (by omega) hw1 hw hv hk hK (xm X ^ w) F 0 (-2) ν (Nat.le_refl _) (by omega) a6 a8 (by rw [y1]; exact y5) t3
      rw [show (nI 0 : Int32) = 0 from rfl] at s1
      rw [a4, tx_nI a1, r1, bd1_s, p_manyR hF a3 a2 hw a6 a8, bd2_s, s1, r3.1, r3.2.1, Nat.zero_add]
      have iv : Inv u s μ' ν' := Inv_scr (ag_of r2 PH_SC) (ag_of s2 P9_SR) q
      by_cases z : d = 0
      · rw [if_pos z, if_pos z]
        exact ⟨_, _, _, rfl, rfl, iv⟩
      · rw [if_neg z, if_neg z]
        have fz : ∀ n, cA μ X w k (tgC μ i) n = 0 → fA μ X w k (tgC μ i) n = -2 := fun n => by
          induction n with
          | zero => exact fun _ => rfl
          | succ n ih =>
            intro h
            rw [cA_s] at h
            rw [fA_s]
            by_cases y : rowB μ X w k n (tgC μ i) = true
            · rw [if_pos y] at h
              omega
            · rw [if_neg y] at h ⊢
              exact ih h
        by_cases y : cA μ X w k (tgC μ i) (xm X ^ w) = 0
        · rw [if_pos y, fz _ y]
          exact ⟨_, _, _, rfl, rfl, iv⟩
        · rw [if_neg y]
          exact ⟨_, _, _, rfl, rfl, iv⟩
    · rw [if_neg (show ¬ d ≤ 1 from fun z => d1 (i_le.mp z)), p_in0 (x := 0) (y := 1) rfl rfl (by omega), bd2_s, if_pos rfl]
      exact ⟨_, μ, ν, rfl, rfl, q⟩
  · rw [hc, bd2_s, oel_n]
    rw [p_in]
    by_cases y : (0 : Int32).toInt ≤ a.toInt ∧ a.toInt ≤ (nI K).toInt
    · rw [if_pos y, bd2_s, if_neg n1_0, hr, bd2_s, if_pos rfl, bd2_s, if_pos rfl]
      exact ⟨_, μ, ν, rfl, rfl, q⟩
    · rw [if_neg y, bd2_s, if_pos rfl, bd2_s, if_pos rfl]
      exact ⟨_, μ, ν, rfl, rfl, q⟩
