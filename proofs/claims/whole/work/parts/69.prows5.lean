theorem fitB_ag {μ μ' : Mm} {w : Nat} {l : List Int32} (h : ∀ c j, 41 ≤ c → c ≤ 43 → gi μ' c 0 j = gi μ c 0 j) : ∀ d i, fitB μ' w l d i = fitB μ w l d i
  | 0, _ => rfl
  | d + 1, i => by
    unfold fitB
    rw [h 41 i (by omega) (by omega), h 42 i (by omega) (by omega), h 43 i (by omega) (by omega), fitB_ag h d (i + 1)]
def PH (c i j : Nat) : Prop := (c = 5 ∧ i = 8) ∨ c = 44 ∨ c = 45 ∨ (c = 9 ∧ (j = 1 ∨ j = 2))
theorem PH_SC : ∀ c i j, PH c i j → SC c i j := fun c i j h => by
  unfold PH at h
  unfold SC
  omega
theorem Tc_PH : ∀ c i j, Tc c i → ¬ PH c i j := fun c i j h q => by
  unfold Tc at h
  unfold PH at q
  omega
theorem P8_PH : ∀ c i j, P8 c i j → PH c i j := fun c i j h => by
  unfold P8 at h
  unfold PH
  omega
/-- what is heard after i rows -/
def HR (μ : Mm) (μ0 : Mm) (X : Xt) (w k : Nat) (t : Tg) (i : Nat) : Prop := gi μ 9 0 1 = nI (cA μ0 X w k t i) ∧ gi μ 9 0 2 = fA μ0 X w k t i ∧ ∀ z, z < 12 → gi μ 45 0 z = tA μ0 X w k t i z
theorem cA_s {μ : Mm} {X : Xt} {w k : Nat} {t : Tg} {i : Nat} : cA μ X w k t (i + 1) = if rowB μ X w k i t = true then cA μ X w k t i + 1 else cA μ X w k t i := rfl
theorem fA_s {μ : Mm} {X : Xt} {w k : Nat} {t : Tg} {i : Nat} : fA μ X w k t (i + 1) = if rowB μ X w k i t = true then (if cA μ X w k t i = 0 then nI i else fA μ X w k t i) else fA μ X w k t i := rfl
theorem tA_s {μ : Mm} {X : Xt} {w k : Nat} {t : Tg} {i z : Nat} : tA μ X w k t (i + 1) z = if rowB μ X w k i t = true then tA μ X w k t i z + tl1 X w i t z else tA μ X w k t i z := rfl
theorem p_hrL {F T w k K sq : Nat} {X : Xt} {t : Tg} {μ0 : Mm} (hF : 1000 ≤ F) (hT : T < 2) (hX : Xok X) (hw1 : 1 ≤ w) (hw : w ≤ 4) (hk : k ≤ K) (hK : K ≤ 20) (hs : sq < 4) (ht : tV t) (h0 : ∀ j, j < K → 1 ≤ (gi μ0 41 0 j).toInt ∧ (gi μ0 41 0 j).toInt ≤ 4) : ∀ (d n i : Nat) (μ : Mm), i + d = xm X ^ w → d < n → CT μ T X → tgC μ sq = t → gi μ 9 0 0 = nI K → (∀ c j, 41 ≤ c → c ≤ 43 → gi μ c 0 j = gi μ0 c 0 j) → HR μ μ0 X w k t i → ∃ μ', fX9_hear_L69 F n T sq (nI k) (nI w) (nI (xm X ^ (w - 1))) (nI i) μ = some μ' ∧ ag PH μ μ' ∧ HR μ' μ0 X w k t (xm X ^ w)
  | _, 0, _, _, _, h, _, _, _, _, _ => absurd h (Nat.not_lt_zero _)
  | d, n + 1, i, μ, h1, h2, hC, hq, h9, ho, hh => by
    have pb := pw_b (w := w) hX hw
    have pb2 := pw_b (w := w - 1) hX (by omega)
    have hm5 := hX.2.1
    have epw : xm X ^ (w - 1) * xm X = xm X ^ w := by
      rw [← Nat.pow_succ, Nat.succ_eq_add_one, show w - 1 + 1 = w by omega]
    rw [fX9_hear_L69, hC.2.1, nn_mul, epw]
    by_cases d0 : d = 0
    · rw [if_pos (by rw [nn_le (by omega) (by omega)]; omega)]
      refine ⟨μ, rfl, ag_rfl, ?_⟩
      rw [show xm X ^ w = i by omega]
      exact hh
    obtain ⟨d, rfl⟩ : ∃ x, d = x + 1 := ⟨d - 1, by omega⟩
    have hm : 0 < xm X := by
      rcases Nat.eq_zero_or_pos (xm X) with z | z
      · rw [z, Nat.zero_pow (by omega)] at h1
        omega
      · exact z
    rw [if_neg (by rw [nn_le (by omega) (by omega)]; omega)]
    unfold fX9_canBeCalled
    have g0 : ag P8 μ (pt μ 8 t) := ag_pt (fun j => Or.inl ⟨rfl, rfl⟩)
    have ep : fX5_takeTangle F 8 sq μ = some (pt μ 8 t) := by rw [p_takeT, hq]
    obtain ⟨x, μ1, r1, r2, r3⟩ := p_cbL (F := F) (w := w) (r := i) hF hT hX hm hw (by omega) w F 0 (pt μ 8 t) (xm X ^ (w - 1)) (by omega) (by omega) (fun _ => rfl) (by omega) (CT_ag hT hX g0 Tc_P8 hC) (by rw [tgC_pt]; exact ht)
    rw [tgC_pt] at r3
    have g1 : ag P8 μ μ1 := ag_tr g0 r2
    have n1 : ∀ {c i j}, ¬ P8 c i j → gi μ1 c i j = gi μ c i j := fun h => ag_n g1 h
    rw [show (nI 0 : Int32) = 0 from rfl] at r1
    rw [ep, bd1_s, r1, bd2_s]
    have q1 : tgC μ1 sq = t := by
      rw [← hq]
      unfold tgC
      rw [n1 (by unfold P8; omega), n1 (by unfold P8; omega)]
    have o1 : ∀ c j, 41 ≤ c → c ≤ 43 → gi μ1 c 0 j = gi μ0 c 0 j := fun c j a b => (n1 (by unfold P8; omega)).trans (ho c j a b)
    have h91 : gi μ1 9 0 0 = nI K := (n1 (by unfold P8; omega)).trans h9
    have C1 := CT_ag hT hX g1 Tc_P8 hC
    have go := fun (μ2 : Mm) (g2 : ag PH μ1 μ2) (hh2 : HR μ2 μ0 X w k t (i + 1)) => p_hrL (F := F) hF hT hX hw1 hw hk hK hs ht h0 d n (i + 1) μ2 (by omega) (by omega) (CT_ag hT hX g2 Tc_PH C1) (by
      rw [← q1]
      unfold tgC
      rw [ag_n g2 (by unfold PH; omega), ag_n g2 (by unfold PH; omega)]) ((ag_n g2 (by unfold PH; omega)).trans h91) (fun c j a b => (ag_n g2 (by unfold PH; omega)).trans (o1 c j a b)) hh2
    have skip : rowB μ0 X w k i t = false → ∃ μ', fX9_hear_L69 F n T sq (nI k) (nI w) (nI (xm X ^ (w - 1))) (nI (i + 1)) μ1 = some μ' ∧ ag PH μ μ' ∧ HR μ' μ0 X w k t (xm X ^ w) := fun hb => by
      have nb : ¬ rowB μ0 X w k i t = true := by
        rw [hb]
        decide
      obtain ⟨μ', s1, s2, s3⟩ := go μ1 ag_rfl ⟨by rw [n1 (by unfold P8; omega), hh.1, cA_s, if_neg nb], by rw [n1 (by unfold P8; omega), hh.2.1, fA_s, if_neg nb], fun z hz => by rw [n1 (by unfold P8; omega), hh.2.2 z hz, tA_s, if_neg nb]⟩
      exact ⟨μ', s1, ag_tr (ag_of g1 P8_PH) s2, s3⟩
    unfold fX9_hear_L114
    cases he : ends X i w t with
    | none =>
      rw [he] at r3
      have hb : rowB μ0 X w k i t = false := by
        unfold rowB
        rw [he]
      rw [r3, if_pos rfl, nn_s]
      exact skip hb
    | some l =>
      rw [he] at r3
      obtain ⟨x1, x2, x3⟩ := r3
      have hl : ∀ z, z < w → gi μ1 44 0 z = l.getD z 0 := fun z hz => by
        have := x3 z hz
        rw [Nat.zero_add] at this
        exact this
      have fb : fitB μ1 w l k 0 = fitB μ0 w l k 0 := fitB_ag o1 k 0
      have rb : rowB μ0 X w k i t = fitB μ0 w l k 0 := by
        unfold rowB
        rw [he]
      unfold fX9_fits
      have pf := p_fitC (F := F) (l := l) hw hk hK h91 (fun j hj => by rw [o1 41 j (by omega) (by omega)]; exact h0 j hj) hl k F 0 (by omega) (by omega)
      rw [show (nI 0 : Int32) = 0 from rfl] at pf
      rw [x1, if_neg n1_0, pf, bd2_s, fb, ← rb]
      by_cases b : rowB μ0 X w k i t = true
      · have e3 := ends_3 w t l he
        have ci := cA_le (μ := μ0) (X := X) (w := w) (k := k) (t := t) i
        have h1c : gi μ1 9 0 1 = nI (cA μ0 X w k t i) := (n1 (by unfold P8; omega)).trans hh.1
        have h1f : gi μ1 9 0 2 = fA μ0 X w k t i := (n1 (by unfold P8; omega)).trans hh.2.1
        have fin : ∀ (μa : Mm) (f : Int32), ag PH μ1 μa → gi μa 9 0 1 = nI (cA μ0 X w k t i) → gi μa 9 0 2 = f → f = fA μ0 X w k t (i + 1) → (∀ z, z < 12 → gi μa 45 0 z = gi μ1 45 0 z) → (∀ z, z < w → gi μa 44 0 z = l.getD z 0) → ∃ μ', (bd1 (fX9_addFitting_L12 F (nI w) μa) fun μ16 => fX9_hear_L69 F n T sq (nI k) (nI w) (nI (xm X ^ (w - 1))) (nI i + 1) μ16) = some μ' ∧ ag PH μ μ' ∧ HR μ' μ0 X w k t (xm X ^ w) := fun μa f ga ha hf hf2 h45 h44 => by
          unfold fX9_addFitting_L12
          rw [ha, nn_s, show (0 : Int32) = nI 0 from rfl]
          obtain ⟨μ2, s1, s2, s3⟩ := p_adL (F := F) (w := w) (l := l) hw e3 w F 0 (si μa 9 0 1 (nI (cA μ0 X w k t i + 1))) (by omega) (by omega) (fun z hz => (gi_ne (by omega)).trans (h44 z hz))
          rw [s1, bd1_s, nn_s]
          have g2 : ag PH μ1 μ2 := ag_tr (ag_tr ga (ag_si (by unfold PH; omega))) (ag_of s2 (fun c i j y => by unfold PH; omega))
          obtain ⟨μ', v1, v2, v3⟩ := go μ2 g2 ⟨by
            rw [ag_n s2 (by omega), gi_eq]
            rw [cA_s, if_pos b], by
            rw [ag_n s2 (by omega), gi_ne (by omega), hf, hf2], fun z hz => by
            rw [s3 z hz, gi_ne (by omega), h45 z hz, n1 (by unfold P8; omega), hh.2.2 z hz]
            rw [tA_s, if_pos b]
            unfold tl1
            rw [he]
            show _ = tA μ0 X w k t i z + (if z / 3 < w ∧ l.getD (z / 3) 0 = nI (z % 3) then 1 else 0)
            by_cases y : z / 3 < w ∧ l.getD (z / 3) 0 = nI (z % 3)
            · rw [if_pos y, if_pos ⟨Nat.zero_le _, y⟩]
            · rw [if_neg y, if_neg (fun q => y q.2), Int32.add_zero]⟩
          exact ⟨μ', v1, ag_tr (ag_tr (ag_of g1 P8_PH) g2) v2, v3⟩
        unfold fX9_addFitting
        rw [b, show b01 true = 1 from rfl, if_neg n1_0, h1c]
        by_cases c0 : cA μ0 X w k t i = 0
        · rw [c0, if_pos (show nI 0 = 0 from rfl)]
          refine fin (si μ1 9 0 2 (nI i)) (nI i) (ag_si (by unfold PH; omega)) (by rw [gi_ne (by omega)]; exact h1c) gi_eq ?_ (fun z hz => gi_ne (by omega)) (fun z hz => (gi_ne (by omega)).trans (hl z hz))
          rw [fA_s, if_pos b, if_pos c0]
        · rw [if_neg (show ¬ nI (cA μ0 X w k t i) = 0 by rw [show (0 : Int32) = nI 0 from rfl, nn_inj (by omega) (by omega)]; exact c0)]
          refine fin μ1 _ ag_rfl h1c h1f ?_ (fun z hz => rfl) hl
          rw [fA_s, if_pos b, if_neg c0]
      · have bf : rowB μ0 X w k i t = false := by simpa using b
        rw [bf, show b01 false = 0 from rfl, if_pos rfl, nn_s]
        exact skip bf
