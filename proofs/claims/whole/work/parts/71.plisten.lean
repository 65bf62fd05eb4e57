/-! PURE: listen, the reference's telling -/
def P6 (c i j : Nat) : Prop := c = 87 ∨ c = 88 ∨ c = 89
theorem P6_SR : ∀ c i j, P6 c i j → SR c i j := fun c i j h => by
  unfold P6 at h
  unfold SR
  omega
/-- a row's ends are added -/
theorem p_73L {F w : Nat} {l : List Int32} {K : Int32 → Int32 → Int32 → Int32 → Int32 → Mm → Option (Int32 × Mm)} {v1 v2 v5 : Int32} (hw : w ≤ 4) (h3 : ∀ j, j < w → ∃ e, e < 3 ∧ l.getD j 0 = nI e) : ∀ (d n j : Nat) (ν : Mm), j + d = w → d < n → (∀ z, z < w → gi ν 87 0 (z + 1) = l.getD z 0) → ∃ ν', fX12_listen_L73 F K n v1 v2 (nI w) 1 v5 (nI (j + 1)) ν = K v1 v2 (nI w) 1 (v5 + 1) ν' ∧ ag (fun c _ _ => c = 89) ν ν' ∧ ∀ z, z < 12 → gi ν' 89 0 (z + 3) = if j ≤ z / 3 ∧ z / 3 < w ∧ l.getD (z / 3) 0 = nI (z % 3) then gi ν 89 0 (z + 3) + 1 else gi ν 89 0 (z + 3)
  | _, 0, _, _, _, h, _ => absurd h (Nat.not_lt_zero _)
  | 0, n + 1, j, ν, h1, h2, hl => by
    rw [fX12_listen_L73, if_pos (by rw [nn_lt (by omega) (by omega)]; omega)]
    exact ⟨ν, rfl, ag_rfl, fun z hz => by rw [if_neg (by omega)]⟩
  | d + 1, n + 1, j, ν, h1, h2, hl => by
    obtain ⟨e, he, he2⟩ := h3 j (by omega)
    have g1 : ag (fun c _ _ => c = 89) ν (si ν 89 0 (3 * (j + 1) + e) (gi ν 89 0 (3 * (j + 1) + e) + 1)) := ag_si rfl
    rw [fX12_listen_L73, if_neg (by rw [nn_lt (by omega) (by omega)]; omega), if_pos ((nn_inb (by omega)).mpr (by omega)), nn_cl (by omega), hl j (by omega), he2, show (3 : Int32) = nI 3 from rfl, nn_mul, nn_add, if_pos ((nn_inb (by omega)).mpr (by omega)), nn_cl (by omega), nn_s]
    obtain ⟨ν', r1, r2, r3⟩ := p_73L (F := F) (K := K) (v1 := v1) (v2 := v2) (v5 := v5) hw h3 d n (j + 1) _ (by omega) (by omega) (fun z hz => (ag_n g1 (by omega)).trans (hl z hz))
    refine ⟨ν', r1, ag_tr g1 r2, fun z hz => ?_⟩
    rw [r3 z hz, gi_si]
    by_cases a : z = 3 * j + e
    · subst a
      have q1 : (3 * j + e) / 3 = j := by omega
      have q2 : (3 * j + e) % 3 = e := by omega
      rw [q1, q2, if_pos (c := 89 = 89 ∧ 0 = 0 ∧ 3 * j + e + 3 = 3 * (j + 1) + e) ⟨rfl, rfl, by omega⟩, if_neg (by omega), if_pos ⟨Nat.le_refl _, by omega, he2⟩, show 3 * (j + 1) + e = 3 * j + e + 3 by omega]
    · rw [if_neg (c := 89 = 89 ∧ 0 = 0 ∧ z + 3 = 3 * (j + 1) + e) (fun y => a (by omega))]
      by_cases b : j + 1 ≤ z / 3 ∧ z / 3 < w ∧ l.getD (z / 3) 0 = nI (z % 3)
      · rw [if_pos b, if_pos ⟨by omega, b.2⟩]
      · rw [if_neg b, if_neg (fun y => by
          by_cases c : z / 3 = j
          · have y2 := y.2.2
            rw [c, he2, nn_inj (by omega) (by omega)] at y2
            exact a (by omega)
          · exact b ⟨by omega, y.2⟩)]
/-- how much is told is at most how many fit -/
theorem tA_b {μ : Mm} {X : Xt} {w k : Nat} {t : Tg} {z : Nat} : ∀ i, ∃ n, n ≤ cA μ X w k t i ∧ tA μ X w k t i z = nI n
  | 0 => ⟨0, Nat.le_refl _, rfl⟩
  | i + 1 => by
    obtain ⟨n, h1, h2⟩ := tA_b (μ := μ) (X := X) (w := w) (k := k) (t := t) (z := z) i
    rw [cA_s, tA_s]
    by_cases b : rowB μ X w k i t = true
    · rw [if_pos b, if_pos b, h2]
      unfold tl1
      split
      · split
        · exact ⟨n + 1, by omega, nn_s n⟩
        · exact ⟨n, by omega, Int32.add_zero _⟩
      · exact ⟨n, by omega, Int32.add_zero _⟩
    · rw [if_neg b, if_neg b]
      exact ⟨n, h1, h2⟩
