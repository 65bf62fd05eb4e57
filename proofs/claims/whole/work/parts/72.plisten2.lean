def flg (n : Nat) : Int32 := if n = 0 then 0 else 1
theorem p_42L {F S s w k K : Nat} {X : Xt} {t : Tg} {μ : Mm} (hF : 1000 ≤ F) (hX : Xok X) (hS2 : S < 2) (hs : s < 4) (hw1 : 1 ≤ w) (hw : w ≤ 4) (ht : tV t) (hk : k ≤ K) (hK : K ≤ 20) : ∀ (d n i : Nat) (ν : Mm), i + d = xm X ^ w → d < n → gi ν 12 0 18 = nI S → RT ν S X → gi ν 75 0 s = enc t → (∀ j, j < K → (gi μ 41 0 j = gi ν 84 0 j ∧ 1 ≤ (gi μ 41 0 j).toInt ∧ (gi μ 41 0 j).toInt ≤ 4) ∧ gi μ 42 0 j = gi ν 85 0 j ∧ gi μ 43 0 j = gi ν 86 0 j) → (∀ z, z < 12 → gi ν 89 0 (z + 3) = tA μ X w k t i z) → ∃ ν', fX12_listen_L42 F n (nI k) (nI s) (nI w) (flg (cA μ X w k t i)) (nI i) ν = fX12_listen_L122 F F (nI w) (flg (cA μ X w k t (xm X ^ w))) (-2) 0 1 ν' ∧ ag P6 ν ν' ∧ ∀ z, z < 12 → gi ν' 89 0 (z + 3) = tA μ X w k t (xm X ^ w) z
  | _, 0, _, _, _, h, _, _, _, _, _ => absurd h (Nat.not_lt_zero _)
  | 0, n + 1, i, ν, h1, h2, hS, hR, h75, hT, hA => by
    have pb := pw_b (w := w) hX hw
    rw [fX12_listen_L42, p_manyR hF hX hS2 hw hS hR, bd2_s, if_pos (by rw [nn_le (by omega) (by omega)]; omega), show xm X ^ w = i by omega]
    exact ⟨ν, rfl, ag_rfl, hA⟩
  | d + 1, n + 1, i, ν, h1, h2, hS, hR, h75, hT, hA => by
    have pb := pw_b (w := w) hX hw
    have hm : 0 < xm X := by
      rcases Nat.eq_zero_or_pos (xm X) with z | z
      · rw [z, Nat.zero_pow (by omega)] at h1
        omega
      · exact z
    obtain ⟨ν1, a1, a2, a3⟩ := p_dfR (F := F) (S := S) (s := s) (w := w) (k := k) (r := i) (μ := μ) (ν := ν) hF hm hX hS2 hs hw1 hw (by omega) hS hR ht h75 hk hK hT
    have g1 : ag P6 ν ν1 := ag_of a2 (fun c i j h => by unfold P9 at h; unfold P6; omega)
    have n9 : ∀ z, gi ν1 89 0 z = gi ν 89 0 z := fun z => ag_n a2 (by unfold P9; omega)
    have go := fun (ν2 : Mm) (g2 : ag P6 ν ν2) (hA2 : ∀ z, z < 12 → gi ν2 89 0 (z + 3) = tA μ X w k t (i + 1) z) => p_42L (F := F) (S := S) (K := K) (μ := μ) hF hX hS2 hs hw1 hw ht hk hK d n (i + 1) ν2 (by omega) (by omega) (live_SR (ag_of g2 P6_SR) hS) (RT_SR (ag_of g2 P6_SR) hR) ((ag_n g2 (by unfold P6; omega)).trans h75) (fun j hj => by rw [ag_n g2 (by unfold P6; omega), ag_n g2 (by unfold P6; omega), ag_n g2 (by unfold P6; omega)]; exact hT j hj) hA2
    rw [fX12_listen_L42, p_manyR hF hX hS2 hw hS hR, bd2_s, if_neg (by rw [nn_le (by omega) (by omega)]; omega), a1, bd2_s]
    by_cases b : rowB μ X w k i t = true
    · rw [b, show b01 true = 1 from rfl, if_neg n1_0]
      obtain ⟨l, he⟩ : ∃ l, ends X i w t = some l := by
        unfold rowB at b
        split at b
        · rename_i l he
          exact ⟨l, he⟩
        · cases b
      obtain ⟨ν2, b1, b2, b3⟩ := p_73L (F := F) (w := w) (l := l) (K := fun v1 v2 v3 v4 v5 μ => fX12_listen_L42 F n v1 v2 v3 v4 v5 μ) (v1 := nI k) (v2 := nI s) (v5 := nI i) hw (ends_3 w t l he) w F 0 ν1 (by omega) (by omega) (a3 l he)
      rw [show (nI (0 + 1) : Int32) = 1 from rfl] at b1
      obtain ⟨ν', v1, v2, v3⟩ := go ν2 (ag_tr g1 (ag_of b2 (fun c i j h => Or.inr (Or.inr h)))) (fun z hz => by
        rw [b3 z hz, n9, hA z hz, tA_s, if_pos b]
        unfold tl1
        rw [he]
        show _ = tA μ X w k t i z + (if z / 3 < w ∧ l.getD (z / 3) 0 = nI (z % 3) then 1 else 0)
        by_cases y : z / 3 < w ∧ l.getD (z / 3) 0 = nI (z % 3)
        · rw [if_pos y, if_pos ⟨Nat.zero_le _, y⟩]
        · rw [if_neg y, if_neg (fun q => y q.2), Int32.add_zero])
      rw [b1, nn_s]
      have e1 : flg (cA μ X w k t (i + 1)) = 1 := by
        rw [cA_s, if_pos b]
        unfold flg
        rw [if_neg (by omega)]
      rw [e1] at v1
      exact ⟨ν', v1, ag_tr (ag_tr g1 (ag_of b2 (fun c i j h => Or.inr (Or.inr h)))) v2, v3⟩
    · have bf : rowB μ X w k i t = false := by simpa using b
      obtain ⟨ν', v1, v2, v3⟩ := go ν1 g1 (fun z hz => by rw [n9, hA z hz, tA_s, if_neg b])
      have e1 : cA μ X w k t (i + 1) = cA μ X w k t i := by rw [cA_s, if_neg b]
      rw [e1] at v1
      rw [bf, show b01 false = 0 from rfl, if_pos rfl]
      unfold fX12_listen_L106
      rw [nn_s]
      exact ⟨ν', v1, ag_tr g1 v2, v3⟩
