/-! PURE: rows, how many, which first, what is told of each call -/
def cA (μ : Mm) (X : Xt) (w k : Nat) (t : Tg) : Nat → Nat
  | 0 => 0
  | i + 1 => if rowB μ X w k i t = true then cA μ X w k t i + 1 else cA μ X w k t i
def fA (μ : Mm) (X : Xt) (w k : Nat) (t : Tg) : Nat → Int32
  | 0 => -2
  | i + 1 => if rowB μ X w k i t = true then (if cA μ X w k t i = 0 then nI i else fA μ X w k t i) else fA μ X w k t i
theorem cA_le {μ : Mm} {X : Xt} {w k : Nat} {t : Tg} : ∀ i, cA μ X w k t i ≤ i
  | 0 => Nat.le_refl _
  | i + 1 => by
    have := cA_le (μ := μ) (X := X) (w := w) (k := k) (t := t) i
    unfold cA
    split <;> omega
theorem p_many {F S w : Nat} {X : Xt} (hX : Xok X) (hS2 : S < 2) (hw : w ≤ 4) : ∀ (d n j v : Nat) (ν : Mm), j + d = w → d < n → v * 5 ^ d ≤ 625 → gi ν 12 0 18 = nI S → RT ν S X → fX12_rowsMany_L4 F n (nI w) (nI v) (nI j) ν = some (nI (v * xm X ^ d), ν)
  | _, 0, _, _, _, _, h, _, _, _ => absurd h (Nat.not_lt_zero _)
  | 0, n + 1, j, v, ν, h1, h2, hv, hS, hR => by
    rw [fX12_rowsMany_L4, if_pos (by rw [nn_le (by omega) (by omega)]; omega), Nat.pow_zero, Nat.mul_one]
  | d + 1, n + 1, j, v, ν, h1, h2, hv, hS, hR => by
    have hm5 := hX.2.1
    have e : v * xm X * 5 ^ d ≤ 625 := by
      rw [Nat.pow_succ, Nat.mul_comm (5 ^ d) 5, ← Nat.mul_assoc] at hv
      exact Nat.le_trans (Nat.mul_le_mul_right _ (Nat.mul_le_mul_left _ hm5)) hv
    rw [fX12_rowsMany_L4, if_neg (by rw [nn_le (by omega) (by omega)]; omega), p_figN hS hS2 hR, bd2_s, nn_mul, nn_s, p_many hX hS2 hw d n (j + 1) (v * xm X) ν (by omega) (by omega) e hS hR, Nat.pow_succ, Nat.mul_comm (xm X ^ d), Nat.mul_assoc]
theorem pw_b {X : Xt} {w : Nat} (hX : Xok X) (hw : w ≤ 4) : xm X ^ w ≤ 625 := Nat.le_trans (Nat.pow_le_pow_left hX.2.1 w) (Nat.le_trans (Nat.pow_le_pow_right (by omega) hw) (by decide))
theorem p_manyR {F S w : Nat} {X : Xt} {ν : Mm} (hF : 1000 ≤ F) (hX : Xok X) (hS2 : S < 2) (hw : w ≤ 4) (hS : gi ν 12 0 18 = nI S) (hR : RT ν S X) : fX12_rowsMany F (nI w) ν = some (nI (xm X ^ w), ν) := by
  have := p_many (F := F) (w := w) hX hS2 hw w F 0 1 ν (by omega) (by omega) (by rw [Nat.one_mul]; exact Nat.le_trans (Nat.pow_le_pow_right (by omega) hw) (by decide)) hS hR
  rw [Nat.one_mul] at this
  exact this
/-- the reference's rows, from the last to the first -/
theorem p_rowsR {F S s w k K : Nat} {X : Xt} {t : Tg} {μ : Mm} {v4 : Int32} (hF : 1000 ≤ F) (hX : Xok X) (hS2 : S < 2) (hs : s < 4) (hw1 : 1 ≤ w) (hw : w ≤ 4) (ht : tV t) (hk : k ≤ K) (hK : K ≤ 20) : ∀ (i n c : Nat) (f : Int32) (ν : Mm), i ≤ xm X ^ w → i < n → gi ν 12 0 18 = nI S → RT ν S X → gi ν 75 0 s = enc t → (∀ j, j < K → (gi μ 41 0 j = gi ν 84 0 j ∧ 1 ≤ (gi μ 41 0 j).toInt ∧ (gi μ 41 0 j).toInt ≤ 4) ∧ gi μ 42 0 j = gi ν 85 0 j ∧ gi μ 43 0 j = gi ν 86 0 j) → ∃ ν', fX12_rows_L38 F n (nI k) (nI s) (nI w) v4 (nI c) f (nI i - 1) ν = some (if v4 = 0 then nI (c + cA μ X w k t i) else if cA μ X w k t i = 0 then f else fA μ X w k t i, ν') ∧ ag P9 ν ν'
  | _, 0, _, _, _, _, h, _, _, _, _ => absurd h (Nat.not_lt_zero _)
  | 0, n + 1, c, f, ν, h1, h2, hS, hR, h75, hT => by
    rw [fX12_rows_L38, if_pos (by decide)]
    unfold cA
    refine ⟨ν, ?_, ag_rfl⟩
    by_cases z : v4 = 0
    · rw [if_pos z, if_pos z, Nat.add_zero]
    · rw [if_neg z, if_neg z, if_pos rfl]
  | i + 1, n + 1, c, f, ν, h1, h2, hS, hR, h75, hT => by
    have pb := pw_b (w := w) hX hw
    have hm : 0 < xm X := by
      rcases Nat.eq_zero_or_pos (xm X) with z | z
      · rw [z, Nat.zero_pow (by omega)] at h1
        omega
      · exact z
    obtain ⟨ν1, a1, a2, _⟩ := p_dfR (F := F) (S := S) (s := s) (w := w) (k := k) (r := i) (μ := μ) (ν := ν) hF hm hX hS2 hs hw1 hw (by omega) hS hR ht h75 hk hK hT
    have n1 : ∀ {c i j}, ¬ P9 c i j → gi ν1 c i j = gi ν c i j := fun h => ag_n a2 h
    have go := fun (c' : Nat) (f' : Int32) => p_rowsR (F := F) (S := S) (s := s) (k := k) (K := K) (μ := μ) (v4 := v4) hF hX hS2 hs hw1 hw ht hk hK i n c' f' ν1 (by omega) (by omega) (live_SR (ag_of a2 P9_SR) hS) (RT_SR (ag_of a2 P9_SR) hR) ((n1 (by unfold P9; omega)).trans h75) (fun j hj => by rw [n1 (by unfold P9; omega), n1 (by unfold P9; omega), n1 (by unfold P9; omega)]; exact hT j hj)
    have em : nI i + -1 = nI i - 1 := (Int32.sub_eq_add_neg ..).symm
    rw [fX12_rows_L38, nn_1m, if_neg (nn_neg (by omega)), a1, bd2_s]
    unfold fX12_rows_L65 cA fA
    by_cases b : rowB μ X w k i t = true
    · obtain ⟨ν', r1, r2⟩ := go (c + 1) (nI i)
      rw [b, show b01 true = 1 from rfl, if_neg n1_0, nn_s, em]
      refine ⟨ν', ?_, ag_tr a2 r2⟩
      show fX12_rows_L38 F n (nI k) (nI s) (nI w) v4 (nI (c + 1)) (nI i) (nI i - 1) ν1 = _
      rw [r1, if_pos rfl, if_pos rfl, if_neg (show ¬ cA μ X w k t i + 1 = 0 by omega), show c + 1 + cA μ X w k t i = c + (cA μ X w k t i + 1) by omega]
    · obtain ⟨ν', r1, r2⟩ := go c f
      have bf : rowB μ X w k i t = false := by simpa using b
      rw [bf, show b01 false = 0 from rfl, if_pos rfl, em]
      refine ⟨ν', ?_, ag_tr a2 r2⟩
      show fX12_rows_L38 F n (nI k) (nI s) (nI w) v4 (nI c) f (nI i - 1) ν1 = _
      rw [r1]
      simp only [Bool.false_eq_true, if_false]
theorem enS_3 (t : Tg) : ∃ e, e < 3 ∧ enS t = nI e := by
  unfold enS
  split
  · exact ⟨0, by omega, rfl⟩
  · split
    · exact ⟨2, by omega, rfl⟩
    · exact ⟨1, by omega, rfl⟩
theorem ends_3 {X : Xt} {r : Nat} : ∀ (d : Nat) (t : Tg) (l : List Int32), ends X r d t = some l → ∀ j, j < d → ∃ e, e < 3 ∧ l.getD j 0 = nI e
  | 0, _, _, _, j, h => absurd h (Nat.not_lt_zero _)
  | d + 1, t, l, h, j, hj => by
    unfold ends at h
    split at h
    · split at h
      · rename_i l' e
        injection h with h
        rw [← h]
        match j with
        | 0 => exact enS_3 _
        | j + 1 => exact ends_3 d _ l' e j (by omega)
      · cases h
    · cases h
/-- what is told of a row: 1 where the call z / 3 has the ends z % 3 -/
def tl1 (X : Xt) (w r : Nat) (t : Tg) (z : Nat) : Int32 := match ends X r w t with
  | some l => if z / 3 < w ∧ l.getD (z / 3) 0 = nI (z % 3) then 1 else 0
  | none => 0
def tA (μ : Mm) (X : Xt) (w k : Nat) (t : Tg) : Nat → Nat → Int32
  | 0, _ => 0
  | i + 1, z => if rowB μ X w k i t = true then tA μ X w k t i z + tl1 X w i t z else tA μ X w k t i z
/-- the class adds a row's ends -/
theorem p_adL {F w : Nat} {l : List Int32} (hw : w ≤ 4) (h3 : ∀ j, j < w → ∃ e, e < 3 ∧ l.getD j 0 = nI e) : ∀ (d n j : Nat) (μ : Mm), j + d = w → d < n → (∀ z, z < w → gi μ 44 0 z = l.getD z 0) → ∃ μ', fX9_addFitting_L24 F n (nI w) (nI j) μ = some μ' ∧ ag (fun c _ _ => c = 45) μ μ' ∧ ∀ z, z < 12 → gi μ' 45 0 z = if j ≤ z / 3 ∧ z / 3 < w ∧ l.getD (z / 3) 0 = nI (z % 3) then gi μ 45 0 z + 1 else gi μ 45 0 z
  | _, 0, _, _, _, h, _ => absurd h (Nat.not_lt_zero _)
  | 0, n + 1, j, μ, h1, h2, hl => by
    rw [fX9_addFitting_L24, if_pos (by rw [nn_le (by omega) (by omega)]; omega)]
    exact ⟨μ, rfl, ag_rfl, fun z hz => by rw [if_neg (by omega)]⟩
  | d + 1, n + 1, j, μ, h1, h2, hl => by
    obtain ⟨e, he, he2⟩ := h3 j (by omega)
    have g1 : ag (fun c _ _ => c = 45) μ (si μ 45 0 (3 * j + e) (gi μ 45 0 (3 * j + e) + 1)) := ag_si rfl
    rw [fX9_addFitting_L24, if_neg (by rw [nn_le (by omega) (by omega)]; omega), show (4 : Int32) = nI 4 from rfl, if_neg (by rw [nn_le (by omega) (by omega)]; omega), if_pos ((nn_inb (by omega)).mpr (by omega)), nn_cl (by omega), hl j (by omega), he2, show (3 : Int32) = nI 3 from rfl, nn_mul, nn_add, if_pos ((nn_inb (by omega)).mpr (by omega)), nn_cl (by omega), nn_s]
    obtain ⟨μ', r1, r2, r3⟩ := p_adL (F := F) hw h3 d n (j + 1) _ (by omega) (by omega) (fun z hz => (ag_n g1 (by omega)).trans (hl z hz))
    refine ⟨μ', r1, ag_tr g1 r2, fun z hz => ?_⟩
    rw [r3 z hz, gi_si]
    by_cases a : z = 3 * j + e
    · subst a
      have q1 : (3 * j + e) / 3 = j := by omega
      have q2 : (3 * j + e) % 3 = e := by omega
      rw [q1, q2, if_pos (c := 45 = 45 ∧ 0 = 0 ∧ 3 * j + e = 3 * j + e) ⟨rfl, rfl, rfl⟩, if_neg (by omega), if_pos ⟨Nat.le_refl _, by omega, he2⟩]
    · rw [if_neg (c := 45 = 45 ∧ 0 = 0 ∧ z = 3 * j + e) (fun y => a y.2.2)]
      by_cases b : j + 1 ≤ z / 3 ∧ z / 3 < w ∧ l.getD (z / 3) 0 = nI (z % 3)
      · rw [if_pos b, if_pos ⟨by omega, b.2⟩]
      · rw [if_neg b, if_neg (fun y => by
          by_cases c : z / 3 = j
          · have y2 := y.2.2
            rw [c, he2, nn_inj (by omega) (by omega)] at y2
            exact a (by omega)
          · exact b ⟨by omega, y.2⟩)]
