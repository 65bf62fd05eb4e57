/-! PURE: the reference's row of calls -/
theorem nn_1m (j : Nat) : nI (j + 1) - 1 = nI j := nn_sub (a := j + 1) (b := 1) (by omega)
def P9 (c i j : Nat) : Prop := c = 87 ∨ c = 88
theorem P9_SR : ∀ c i j, P9 c i j → SR c i j := fun c i j h => by
  unfold P9 at h
  unfold SR
  omega
theorem p_dgL {F S s : Nat} {X : Xt} {v3 v4 : Int32} (hm : 0 < xm X) (hX : Xok X) (hS2 : S < 2) (hs : s < 14) : ∀ (j n R : Nat) (ν : Mm), j ≤ 4 → j < n → R < 1000 → gi ν 12 0 18 = nI S → RT ν S X → ∃ ν', fX12_doesFit_L9 F n (nI s) v3 v4 (nI R) (nI j - 1) ν = fX12_doesFit_L54 F F v3 v4 (gi ν' 75 0 s) 0 ν' ∧ ag P9 ν ν' ∧ (∀ i, j ≤ i → gi ν' 88 0 i = gi ν 88 0 i) ∧ ∀ i, i < j → gi ν' 88 0 i = nI ((R / xm X ^ (j - 1 - i)) % xm X)
  | _, 0, _, _, _, h, _, _, _ => absurd h (Nat.not_lt_zero _)
  | 0, n + 1, R, ν, h1, h2, h3, hS, hR => by
    rw [fX12_doesFit_L9, if_pos (by decide), if_pos ((nn_inb (by omega)).mpr hs), nn_cl (by omega)]
    exact ⟨ν, rfl, ag_rfl, fun _ _ => rfl, fun i hi => absurd hi (Nat.not_lt_zero _)⟩
  | j + 1, n + 1, R, ν, h1, h2, h3, hS, hR => by
    have hm5 := hX.2.1
    have m0 : ¬ nI (xm X) = 0 := by
      rw [show (0 : Int32) = nI 0 from rfl, nn_inj (by omega) (by omega)]
      omega
    have g1 : ag P9 ν (si ν 88 0 j (nI (R % xm X))) := ag_si (Or.inr rfl)
    have hS' := live_SR (ag_of g1 P9_SR) hS
    have hR' := RT_SR (ag_of g1 P9_SR) hR
    have dl : R / xm X ≤ R := Nat.div_le_self _ _
    rw [fX12_doesFit_L9, nn_1m, if_neg (nn_neg (by omega)), p_figN hS hS2 hR, bd2_s, if_neg m0, if_pos ((nn_inb (by omega)).mpr (by omega)), nn_cl (by omega), nn_irm (by omega) (by omega), p_figN hS' hS2 hR', bd2_s, if_neg m0, nn_div (by omega) (by omega), ← Int32.sub_eq_add_neg]
    obtain ⟨ν', r1, r2, r3, r4⟩ := p_dgL (F := F) (v3 := v3) (v4 := v4) hm hX hS2 hs j n (R / xm X) _ (by omega) (by omega) (by omega) hS' hR'
    refine ⟨ν', r1, ag_tr g1 r2, fun i hi => ?_, fun i hi => ?_⟩
    · rw [r3 i (by omega), gi_ne (by omega)]
    · by_cases e : i = j
      · subst e
        rw [r3 i (Nat.le_refl _), gi_eq, show i + 1 - 1 - i = 0 by omega, Nat.pow_zero, Nat.div_one]
      · rw [r4 i (by omega), Nat.div_div_eq_div_mul, show xm X * xm X ^ (j - 1 - i) = xm X ^ (j + 1 - 1 - i) by
          rw [show j + 1 - 1 - i = (j - 1 - i) + 1 by omega, Nat.pow_succ, Nat.mul_comm]]
theorem p_caL {F S w r : Nat} {X : Xt} {v3 : Int32} (hF : 1000 ≤ F) (hm : 0 < xm X) (hX : Xok X) (hS2 : S < 2) (hw : w ≤ 4) : ∀ (d n j : Nat) (t : Tg) (ν : Mm), j + d = w → d < n → gi ν 12 0 18 = nI S → RT ν S X → tV t → (∀ i, i < d → gi ν 88 0 (j + i) = nI ((r / xm X ^ (d - 1 - i)) % xm X)) → ∃ ν', ag P9 ν ν' ∧ (∀ k, k ≤ j → gi ν' 87 0 k = gi ν 87 0 k) ∧ (match ends X r d t with
    | some l => fX12_doesFit_L54 F n v3 (nI w) (enc t) (nI j) ν = fX12_doesFit_L117 F F v3 (nI w) 0 ν' ∧ ∀ k, k < d → gi ν' 87 0 (j + k + 1) = l.getD k 0
    | none => fX12_doesFit_L54 F n v3 (nI w) (enc t) (nI j) ν = some (0, ν'))
  | _, 0, _, _, _, _, h, _, _, _, _ => absurd h (Nat.not_lt_zero _)
  | 0, n + 1, j, t, ν, h1, h2, hS, hR, ht, hd => by
    rw [fX12_doesFit_L54, if_pos (by rw [nn_le (by omega) (by omega)]; omega)]
    exact ⟨ν, ag_rfl, fun _ _ => rfl, rfl, fun k hk => absurd hk (Nat.not_lt_zero _)⟩
  | d + 1, n + 1, j, t, ν, h1, h2, hS, hR, ht, hd => by
    have hm5 := hX.2.1
    have fl : (r / xm X ^ d) % xm X < xm X := Nat.mod_lt _ hm
    have e88 : gi ν 88 0 j = nI ((r / xm X ^ d) % xm X) := by
      have := hd 0 (by omega)
      rw [Nat.add_zero, show d + 1 - 1 - 0 = d by omega] at this
      exact this
    obtain ⟨x1, x2⟩ := hX.2.2.1 _ fl
    have cb := p_calledBy (F := F) (m := xv X ((r / xm X ^ d) % xm X)) (N := xl X ((r / xm X ^ d) % xm X)) (t := t) hF x1 (show 9 * S + 4 + (r / xm X ^ d) % xm X < 18 by omega) hS x2 (hR.2.2.2.1 _ fl).2 ht
    have hu : tV (mkp (xv X ((r / xm X ^ d) % xm X)) (xl X ((r / xm X ^ d) % xm X)) 0 t).2 := tV_mkp _ _ _ (fun i _ hi => x2 i (by omega)) ht
    rw [fX12_doesFit_L54, if_neg (by rw [nn_le (by omega) (by omega)]; omega), if_pos ((nn_inb (by omega)).mpr (by omega)), nn_cl (by omega), e88, p_movesOf hS hS2 hX hR fl, bd2_s, cb, bd2_s]
    unfold encO ends
    by_cases ok : (mkp (xv X ((r / xm X ^ d) % xm X)) (xl X ((r / xm X ^ d) % xm X)) 0 t).1 = true
    · rw [if_pos ok, if_pos ok]
      generalize (mkp (xv X ((r / xm X ^ d) % xm X)) (xl X ((r / xm X ^ d) % xm X)) 0 t).2 = v at *
      have g1 : ag P9 ν (si ν 87 0 (j + 1) (enS v)) := ag_si (Or.inl rfl)
      rw [if_pos (enc_0le hu), p_endsR hu, bd2_s, nn_s, if_pos ((nn_inb (by omega)).mpr (by omega)), nn_cl (by omega)]
      obtain ⟨ν', r1, r2, r3⟩ := p_caL (F := F) (w := w) (r := r) (v3 := v3) hF hm hX hS2 hw d n (j + 1) v _ (by omega) (by omega) (live_SR (ag_of g1 P9_SR) hS) (RT_SR (ag_of g1 P9_SR) hR) hu (fun i hi => by
        rw [gi_ne (by omega), show j + 1 + i = j + (i + 1) by omega, hd (i + 1) (by omega), show d + 1 - 1 - (i + 1) = d - 1 - i by omega])
      refine ⟨ν', ag_tr g1 r1, fun k hk => by rw [r2 k (by omega), gi_ne (by omega)], ?_⟩
      cases he : ends X r d v with
      | none =>
        rw [he] at r3
        exact r3
      | some l =>
        rw [he] at r3
        refine ⟨r3.1, fun k hk => ?_⟩
        match k with
        | 0 =>
          rw [show j + 0 + 1 = j + 1 by omega, r2 (j + 1) (Nat.le_refl _), gi_eq]
          rfl
        | k + 1 =>
          rw [show j + (k + 1) + 1 = j + 1 + k + 1 by omega, r3.2 k (by omega)]
          rfl
    · rw [if_neg ok, if_neg ok, if_neg (by decide)]
      exact ⟨ν, ag_rfl, fun _ _ => rfl, rfl⟩
/-- a row fits -/
def rowB (μ : Mm) (X : Xt) (w k r : Nat) (t : Tg) : Bool := match ends X r w t with
  | some l => fitB μ w l k 0
  | none => false
theorem p_dfR {F S s w k r K : Nat} {X : Xt} {t : Tg} {μ ν : Mm} (hF : 1000 ≤ F) (hm : 0 < xm X) (hX : Xok X) (hS2 : S < 2) (hs : s < 4) (hw1 : 1 ≤ w) (hw : w ≤ 4) (hr : r < 1000) (hS : gi ν 12 0 18 = nI S) (hR : RT ν S X) (ht : tV t) (h75 : gi ν 75 0 s = enc t) (hk : k ≤ K) (hK : K ≤ 20) (hT : ∀ j, j < K → (gi μ 41 0 j = gi ν 84 0 j ∧ 1 ≤ (gi μ 41 0 j).toInt ∧ (gi μ 41 0 j).toInt ≤ 4) ∧ gi μ 42 0 j = gi ν 85 0 j ∧ gi μ 43 0 j = gi ν 86 0 j) : ∃ ν', fX12_doesFit F (nI s) (nI r) (nI k) (nI w) ν = some (b01 (rowB μ X w k r t), ν') ∧ ag P9 ν ν' ∧ ∀ l, ends X r w t = some l → ∀ z, z < w → gi ν' 87 0 (z + 1) = l.getD z 0 := by
  obtain ⟨ν1, a1, a2, a3, a4⟩ := p_dgL (F := F) (S := S) (s := s) (v3 := nI k) (v4 := nI w) hm hX hS2 (by omega) w F r ν hw (by omega) hr hS hR
  have g75 : gi ν1 75 0 s = enc t := (ag_n a2 (by unfold P9; omega)).trans h75
  obtain ⟨ν2, b1, b2, b3⟩ := p_caL (F := F) (w := w) (r := r) (v3 := nI k) hF hm hX hS2 hw w F 0 t ν1 (by omega) (by omega) (live_SR (ag_of a2 P9_SR) hS) (RT_SR (ag_of a2 P9_SR) hR) ht (fun i hi => by rw [Nat.zero_add, a4 i hi])
  have g12 := ag_tr a2 b1
  unfold fX12_doesFit rowB
  rw [a1, g75]
  cases he : ends X r w t with
  | none =>
    rw [he] at b3
    exact ⟨ν2, b3, g12, fun l h => by cases h⟩
  | some l =>
    rw [he] at b3
    obtain ⟨c1, c2⟩ := b3
    have hl : ∀ z, z < w → gi ν2 87 0 (z + 1) = l.getD z 0 := fun z hz => by
      rw [← c2 z hz, Nat.zero_add]
    have n8 : ∀ c j, 84 ≤ c → c ≤ 86 → gi ν2 c 0 j = gi ν c 0 j := fun c j g1 g2 => ag_n g12 (by unfold P9; omega)
    have f := p_fitR (F := F) (w := w) (k := k) (K := K) (l := l) (μ := μ) (ν := ν2) hw hk hK (fun j hj => by rw [n8 84 j (by omega) (by omega), n8 85 j (by omega) (by omega), n8 86 j (by omega) (by omega)]; exact hT j hj) hl k F 0 (by omega) (by omega)
    rw [show (0 : Int32) = nI 0 from rfl] at *
    rw [c1, f]
    refine ⟨ν2, rfl, g12, fun l' h => ?_⟩
    injection h with h
    rw [← h]
    exact hl
