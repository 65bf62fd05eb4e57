/-! PURE: rows of calls, what is heard -/
def ends (X : Xt) (r : Nat) : Nat → Tg → Option (List Int32)
  | 0, _ => some []
  | d + 1, t => if (mkp (xv X ((r / xm X ^ d) % xm X)) (xl X ((r / xm X ^ d) % xm X)) 0 t).1 = true then (match ends X r d (mkp (xv X ((r / xm X ^ d) % xm X)) (xl X ((r / xm X ^ d) % xm X)) 0 t).2 with
    | some l => some (enS (mkp (xv X ((r / xm X ^ d) % xm X)) (xl X ((r / xm X ^ d) % xm X)) 0 t).2 :: l)
    | none => none) else none
theorem ends_len {X : Xt} {r : Nat} : ∀ (d : Nat) (t : Tg) (l : List Int32), ends X r d t = some l → l.length = d
  | 0, t, l, h => by
    unfold ends at h
    injection h with h
    rw [← h]
    rfl
  | d + 1, t, l, h => by
    unfold ends at h
    split at h
    · split at h
      · rename_i l' e
        injection h with h
        rw [← h, List.length_cons, ends_len d _ l' e]
      · cases h
    · cases h
/-- the class: a row of calls, its ENDS told in 44 -/
theorem p_mk8 {F T f i : Nat} {X : Xt} {μ : Mm} (hF : 1000 ≤ F) (hT : T < 2) (hX : Xok X) (hC : CT μ T X) (hf : f < xm X) (hv : tV (tgC μ i)) : fX3_makes F (9 * T + 4 + f) i (gi μ 3 (9 * T + 4 + f) 0) μ = some (b01 (mkp (xv X f) (xl X f) 0 (tgC μ i)).1, pt μ i (mkp (xv X f) (xl X f) 0 (tgC μ i)).2) := by
  obtain ⟨x1, x2⟩ := hX.2.2.1 f hf
  obtain ⟨c1, c2, c3⟩ := hC.2.2.2.1 f hf
  refine p_makes hF x1 ?_ x2 c2 hv
  rw [c1]
  unfold mn
  split <;> rfl
def P8 (c i j : Nat) : Prop := (c = 5 ∧ i = 8) ∨ c = 44
theorem Tc_P8 : ∀ c i j, Tc c i → ¬ P8 c i j := fun c i j h q => by
  unfold Tc at h
  unfold P8 at q
  omega
theorem p_cbL {F T w r : Nat} {X : Xt} (hF : 1000 ≤ F) (hT : T < 2) (hX : Xok X) (hm : 0 < xm X) (hw : w ≤ 4) (hr : r < xm X ^ w) : ∀ (d n j : Nat) (μ : Mm) (pv : Nat), j + d = w → d < n → (0 < d → pv = xm X ^ (d - 1)) → pv < 1000 → CT μ T X → tV (tgC μ 8) → ∃ x μ', fX9_canBeCalled_L15 F n T (nI r) (nI w) (nI pv) (nI j) μ = some (x, μ') ∧ ag P8 μ μ' ∧ (match ends X r d (tgC μ 8) with
    | some l => x = 1 ∧ (∀ k, k < j → gi μ' 44 0 k = gi μ 44 0 k) ∧ ∀ k, k < d → gi μ' 44 0 (j + k) = l.getD k 0
    | none => x = 0)
  | _, 0, _, _, _, _, h, _, _, _, _ => absurd h (Nat.not_lt_zero _)
  | 0, n + 1, j, μ, pv, h1, h2, h3, h4, hC, hv => by
    rw [fX9_canBeCalled_L15, if_pos (by rw [nn_le (by omega) (by omega)]; omega)]
    exact ⟨1, μ, rfl, ag_rfl, rfl, fun _ _ => rfl, fun k hk => absurd hk (Nat.not_lt_zero _)⟩
  | d + 1, n + 1, j, μ, pv, h1, h2, h3, h4, hC, hv => by
    have hm5 := hX.2.1
    have epv : pv = xm X ^ d := h3 (by omega)
    have ppos : 0 < pv := by
      rw [epv]
      exact Nat.pow_pos hm
    have rle : xm X ^ w ≤ 5 ^ 4 := Nat.le_trans (Nat.pow_le_pow_left hm5 w) (Nat.pow_le_pow_right (by omega) hw)
    have hr' : r < 1000 := by omega
    have dl : r / pv ≤ r := Nat.div_le_self _ _
    have fl : (r / pv) % xm X < xm X := Nat.mod_lt _ hm
    have m0 : ¬ nI (xm X) = 0 := by
      rw [show (0 : Int32) = nI 0 from rfl, nn_inj (by omega) (by omega)]
      omega
    have p0 : ¬ nI pv = 0 := by
      rw [show (0 : Int32) = nI 0 from rfl, nn_inj (by omega) (by omega)]
      omega
    rw [fX9_canBeCalled_L15, if_neg (c := nI w ≤ nI j) (by rw [nn_le (by omega) (by omega)]; omega), show (4 : Int32) = nI 4 from rfl, if_neg (c := nI 4 ≤ nI j) (by rw [nn_le (by omega) (by omega)]; omega), if_neg (nn_le0 ppos (by omega)), hC.2.1, if_neg (nn_le0 hm (by omega)), if_neg p0, if_neg m0, nn_div (by omega) (by omega), nn_irm (by omega) (by omega), if_pos ((nn_inb (by omega)).mpr (by omega)), nn_cl (by omega), p_mk8 hF hT hX hC fl hv, bd2_s]
    unfold ends
    rw [← epv]
    by_cases ok : (mkp (xv X ((r / pv) % xm X)) (xl X ((r / pv) % xm X)) 0 (tgC μ 8)).1 = true
    · have hu : tV (mkp (xv X ((r / pv) % xm X)) (xl X ((r / pv) % xm X)) 0 (tgC μ 8)).2 := tV_mkp _ _ _ (fun i _ hi => (hX.2.2.1 _ fl).2 i (by omega)) hv
      rw [if_pos ok, ok, show b01 true = 1 from rfl, if_neg n1_0, p_endsC, tgC_pt, bd2_s, if_pos ((nn_inb (by omega)).mpr (by omega)), nn_cl (by omega)]
      generalize (mkp (xv X ((r / pv) % xm X)) (xl X ((r / pv) % xm X)) 0 (tgC μ 8)).2 = v at *
      have g1 : ag P8 μ (si (pt μ 8 v) 44 0 j (enS v)) := ag_tr (ag_pt (fun j => Or.inl ⟨rfl, rfl⟩)) (ag_si (Or.inr rfl))
      have C1 := CT_ag hT hX g1 Tc_P8 hC
      have t1 : tgC (si (pt μ 8 v) 44 0 j (enS v)) 8 = v := by
        have h := tgC_pt (μ := μ) (i := 8) (t := v)
        unfold tgC at h ⊢
        rw [gi_ne (by omega), gi_ne (by omega)]
        exact h
      have pd : pv / xm X < 1000 := Nat.lt_of_le_of_lt (Nat.div_le_self _ _) h4
      obtain ⟨x, μ', r1, r2, r3⟩ := p_cbL (F := F) hF hT hX hm hw hr d n (j + 1) (si (pt μ 8 v) 44 0 j (enS v)) (pv / xm X) (by omega) (by omega) (fun hd => by
        rw [epv]
        obtain ⟨k, rfl⟩ : ∃ k, d = k + 1 := ⟨d - 1, by omega⟩
        rw [Nat.pow_succ, Nat.mul_div_cancel _ hm]
        rfl) pd C1 (by rw [t1]; exact hu)
      rw [C1.2.1, if_neg m0, nn_div (by omega) (by omega), nn_s, r1]
      refine ⟨x, μ', rfl, ag_tr g1 r2, ?_⟩
      rw [t1] at r3
      cases he : ends X r d v with
      | none =>
        rw [he] at r3
        exact r3
      | some l =>
        rw [he] at r3
        obtain ⟨x1, x2, x3⟩ := r3
        refine ⟨x1, fun k hk => ?_, fun k hk => ?_⟩
        · rw [x2 k (by omega), gi_ne (by omega)]
          unfold pt
          rw [gi_ne (by omega), gi_ne (by omega)]
        · match k with
          | 0 =>
            rw [Nat.add_zero, x2 j (by omega), gi_eq]
            rfl
          | k + 1 =>
            rw [show j + (k + 1) = j + 1 + k by omega, x3 k (by omega)]
            rfl
    · rw [if_neg ok, show b01 (mkp (xv X ((r / pv) % xm X)) (xl X ((r / pv) % xm X)) 0 (tgC μ 8)).1 = 0 from by unfold b01; rw [if_neg ok], if_pos rfl]
      exact ⟨0, _, rfl, ag_pt (fun j => Or.inl ⟨rfl, rfl⟩), rfl⟩
/-- does a row fit all that is heard -/
def fitB (μ : Mm) (w : Nat) (l : List Int32) : Nat → Nat → Bool
  | 0, _ => true
  | d + 1, i => if (w : Int) < (gi μ 41 0 i).toInt then false else if b01 (l.getD ((gi μ 41 0 i).toInt.toNat - 1) 0 == gi μ 42 0 i) = gi μ 43 0 i then fitB μ w l d (i + 1) else false
theorem b01_eq {x y : Int32} : b01 (x == y) = if x = y then 1 else 0 := by
  unfold b01
  by_cases h : x = y
  · rw [if_pos h, if_pos (by simp [h])]
  · rw [if_neg h, if_neg (by simp [h])]
theorem p_fitC {F w k K : Nat} {l : List Int32} {μ : Mm} (hw : w ≤ 4) (hk : k ≤ K) (hK : K ≤ 20) (h9 : gi μ 9 0 0 = nI K) (ht : ∀ j, j < K → 1 ≤ (gi μ 41 0 j).toInt ∧ (gi μ 41 0 j).toInt ≤ 4) (hl : ∀ z, z < w → gi μ 44 0 z = l.getD z 0) : ∀ (d n i : Nat), i + d = k → d < n → fX9_fits_L2 F n (nI k) (nI w) (nI i) μ = some (b01 (fitB μ w l d i), μ)
  | _, 0, _, _, h => absurd h (Nat.not_lt_zero _)
  | 0, n + 1, i, h1, h2 => by
    rw [fX9_fits_L2, if_pos (by rw [nn_le (by omega) (by omega)]; omega)]
    rfl
  | d + 1, n + 1, i, h1, h2 => by
    obtain ⟨c1, c2⟩ := ht i (by omega)
    rw [fX9_fits_L2, if_neg (c := nI k ≤ nI i) (by rw [nn_le (by omega) (by omega)]; omega), h9, if_neg (c := nI K ≤ nI i) (by rw [nn_le (by omega) (by omega)]; omega), if_pos ((nn_inb (by omega)).mpr (by omega)), nn_cl (by omega)]
    unfold fitB
    by_cases a : (w : Int) < (gi μ 41 0 i).toInt
    · rw [if_pos (i_lt.mpr (by rw [nI_toInt (by omega)]; exact a)), if_pos a]
      rfl
    rw [if_neg (fun z => a (by have := i_lt.mp z; rw [nI_toInt (by omega)] at this; exact this)), if_neg a]
    obtain ⟨c, hc, hc2⟩ : ∃ c : Nat, gi μ 41 0 i = nI c ∧ (gi μ 41 0 i).toInt.toNat = c := ⟨_, nn_get (by omega), rfl⟩
    rw [hc2, hc, show (1 : Int32) = nI 1 from rfl, nn_sub (by omega), if_pos ((nn_inb (by omega)).mpr (by omega)), nn_cl (by omega), hl (c - 1) (by omega)]
    have fin : ∀ s0 : Int32, s0 = b01 (l.getD (c - 1) 0 == gi μ 42 0 i) → fX9_fits_L52 F (fun v1 v2 v3 μ => fX9_fits_L2 F n v1 v2 v3 μ) (nI k) (nI w) (nI i) s0 μ = some (b01 (if b01 (l.getD (c - 1) 0 == gi μ 42 0 i) = gi μ 43 0 i then fitB μ w l d (i + 1) else false), μ) := fun s0 hs => by
      unfold fX9_fits_L52
      rw [if_pos ((nn_inb (by omega)).mpr (by omega)), nn_cl (by omega), hs]
      by_cases b : b01 (l.getD (c - 1) 0 == gi μ 42 0 i) = gi μ 43 0 i
      · rw [if_pos b, if_pos b, nn_s]
        exact p_fitC hw hk hK h9 ht hl d n (i + 1) (by omega) (by omega)
      · rw [if_neg b, if_neg b]
        rfl
    by_cases b : l.getD (c - 1) 0 = gi μ 42 0 i
    · rw [if_pos b]
      exact fin _ (by rw [b01_eq, if_pos b]; rfl)
    · rw [if_neg b]
      exact fin _ (by rw [b01_eq, if_neg b])
theorem p_fitR {F w k K : Nat} {l : List Int32} {μ ν : Mm} (hw : w ≤ 4) (hk : k ≤ K) (hK : K ≤ 20) (ht : ∀ j, j < K → (gi μ 41 0 j = gi ν 84 0 j ∧ 1 ≤ (gi μ 41 0 j).toInt ∧ (gi μ 41 0 j).toInt ≤ 4) ∧ gi μ 42 0 j = gi ν 85 0 j ∧ gi μ 43 0 j = gi ν 86 0 j) (hl : ∀ z, z < w → gi ν 87 0 (z + 1) = l.getD z 0) : ∀ (d n i : Nat), i + d = k → d < n → fX12_doesFit_L117 F n (nI k) (nI w) (nI i) ν = some (b01 (fitB μ w l d i), ν)
  | _, 0, _, _, h => absurd h (Nat.not_lt_zero _)
  | 0, n + 1, i, h1, h2 => by
    rw [fX12_doesFit_L117, if_pos (by rw [nn_le (by omega) (by omega)]; omega)]
    rfl
  | d + 1, n + 1, i, h1, h2 => by
    obtain ⟨⟨c0, c1, c2⟩, c3, c4⟩ := ht i (by omega)
    rw [fX12_doesFit_L117, if_neg (c := nI k ≤ nI i) (by rw [nn_le (by omega) (by omega)]; omega), if_pos ((nn_inb (by omega)).mpr (by omega)), nn_cl (by omega), ← c0]
    unfold fitB
    by_cases a : (w : Int) < (gi μ 41 0 i).toInt
    · rw [if_pos (i_lt.mpr (by rw [nI_toInt (by omega)]; exact a)), if_pos a]
      rfl
    rw [if_neg (fun z => a (by have := i_lt.mp z; rw [nI_toInt (by omega)] at this; exact this)), if_neg a]
    obtain ⟨c, hc, hc2⟩ : ∃ c : Nat, gi μ 41 0 i = nI c ∧ (gi μ 41 0 i).toInt.toNat = c := ⟨_, nn_get (by omega), rfl⟩
    have e87 : gi ν 87 0 c = l.getD (c - 1) 0 := by
      rw [← hl (c - 1) (by omega), show c - 1 + 1 = c by omega]
    rw [hc2, hc, if_pos ((nn_inb (by omega)).mpr (by omega)), nn_cl (by omega), e87, ← c3]
    have fin : ∀ s0 : Int32, s0 = b01 (l.getD (c - 1) 0 == gi μ 42 0 i) → fX12_doesFit_L162 F (fun v3 v4 v7 μ => fX12_doesFit_L117 F n v3 v4 v7 μ) (nI k) (nI w) (nI i) s0 ν = some (b01 (if b01 (l.getD (c - 1) 0 == gi μ 42 0 i) = gi μ 43 0 i then fitB μ w l d (i + 1) else false), ν) := fun s0 hs => by
      unfold fX12_doesFit_L162
      rw [if_pos ((nn_inb (by omega)).mpr (by omega)), nn_cl (by omega), hs, ← c4]
      by_cases b : b01 (l.getD (c - 1) 0 == gi μ 42 0 i) = gi μ 43 0 i
      · rw [if_pos b, if_pos b, nn_s]
        exact p_fitR hw hk hK ht hl d n (i + 1) (by omega) (by omega)
      · rw [if_neg b, if_neg b]
        rfl
    by_cases b : l.getD (c - 1) 0 = gi μ 42 0 i
    · rw [if_pos b]
      exact fin _ (by rw [b01_eq, if_pos b])
    · rw [if_neg b]
      exact fin _ (by rw [b01_eq, if_neg b])
