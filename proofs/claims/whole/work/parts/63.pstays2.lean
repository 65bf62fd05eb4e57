theorem p_s34N {F : Nat} {v2 v3 v4 : Int32} {ν : Mm} {g : Int32 → Int32 → Int32 → Mm → Option (Int32 × Mm)} (hF : 1000 ≤ F) : ∀ (d n q : Nat), q + d ≤ 100 → d ≤ n → (∀ P' q', q ≤ q' → q' < q + d → P' < 199 → tV (nI P' - 99, nI q') → ¬ stay (tbR ν) (nI P' - 99, nI q')) → fX12_stays_L34 F n v2 v3 v4 (nI q) ν = fX12_stays_L34 F (n - d) v2 v3 v4 (nI (q + d)) ν
  | 0, n, q, h1, h2, h3 => rfl
  | d + 1, 0, q, h1, h2, h3 => by omega
  | d + 1, n + 1, q, h1, h2, h3 => by
    rw [fX12_stays_L34, show (100 : Int32) = nI 100 from rfl, if_neg (by rw [nn_le (by omega) (by omega)]; omega), show (-99 : Int32) = nI 0 - 99 from rfl, p_rowN hF (by omega) 199 F 0 (by omega) (by omega) (fun P' _ b => h3 P' q (Nat.le_refl _) (by omega) b)]
    rw [p_s34N (g := g) hF d n (q + 1) (by omega) (by omega) (fun P' q' a b => h3 P' q' (by omega) (by omega)), show q + 1 + d = q + (d + 1) by omega, show n + 1 - (d + 1) = n - d by omega]
def tellS (F : Nat) (v2 v3 v4 : Int32) (ν : Mm) : Option (Int32 × Mm) := if v2 = 0 then (some (v3, ν)) else (if 0 ≤ v4 then (if v2 = 1 then (bd2 (fX12_overOf F v4 ν) fun r24 μ23 => some (r24, μ23)) else (bd2 (fX12_underOf F v4 ν) fun r20 μ19 => some (r20, μ19))) else (some ((-1000), ν)))
theorem p_s34e {F n : Nat} {v2 v3 v4 : Int32} {ν : Mm} (h : 1 ≤ n) : fX12_stays_L34 F n v2 v3 v4 (nI 100) ν = tellS F v2 v3 v4 ν := by
  obtain ⟨n, rfl⟩ : ∃ x, n = x + 1 := ⟨n - 1, by omega⟩
  rw [fX12_stays_L34, if_pos (by decide)]
  rfl
/-- none stays -/
theorem p_stN {F : Nat} {v2 : Int32} {ν : Mm} (hF : 1000 ≤ F) (h : ∀ v, tV v → ¬ stay (tbR ν) v) : fX12_stays_L34 F F v2 0 (-1) 0 ν = tellS F v2 0 (-1) ν := by
  have := p_s34N (F := F) (v2 := v2) (v3 := 0) (v4 := -1) (ν := ν) (g := fun _ _ _ _ => none) hF 100 F 0 (by omega) (by omega) (fun P' q' _ _ _ t => h _ t)
  rw [show (0 : Int32) = nI 0 from rfl] at *
  rw [this, Nat.zero_add, p_s34e (by omega)]
theorem tg_nI {v : Tg} (h : tV v) : ∃ P q, P < 199 ∧ q < 100 ∧ v = (nI P - 99, nI q) := by
  obtain ⟨h1, h2, h3, h4, h5, h6⟩ := h
  refine ⟨(v.1.toInt + 99).toNat, v.2.toInt.toNat, by omega, by omega, Prod.ext (i_eq.mpr ?_) (nn_get h3)⟩
  show v.1.toInt = (nI (v.1.toInt + 99).toNat - 99).toInt
  have e : (nI (v.1.toInt + 99).toNat).toInt = v.1.toInt + 99 := by
    rw [nI_toInt (by omega)]
    omega
  rw [tz_sub (by rw [e, show (99 : Int32).toInt = 99 from rfl]; omega), e, show (99 : Int32).toInt = 99 from rfl]
  omega
theorem nI_99 {P P' : Nat} (h : P < 199) (h' : P' < 199) (e : nI P - 99 = nI P' - 99) : P = P' := by
  have e1 := (vC_iff (q := 0) h (by omega)).2.1
  have e2 := (vC_iff (q := 0) h' (by omega)).2.1
  rw [e] at e1
  omega
/-- one stays -/
theorem p_st1 {F : Nat} {v2 : Int32} {ν : Mm} {w : Tg} (hF : 1000 ≤ F) (hw : tV w) (hs : stay (tbR ν) w) (h : ∀ v, tV v → stay (tbR ν) v → v = w) : fX12_stays_L34 F F v2 0 (-1) 0 ν = tellS F v2 1 (enc w) ν := by
  obtain ⟨P, q, hP, hq, rfl⟩ := tg_nI hw
  have qe : ∀ {a b : Nat}, a < 100 → b < 100 → nI a = nI b → a = b := fun ha hb e => (nn_inj (by omega) (by omega)).mp e
  have A := p_s34N (F := F) (v2 := v2) (v3 := 0) (v4 := -1) (ν := ν) (g := fun _ _ _ _ => none) hF q F 0 (by omega) (by omega) (fun P' q' a b c t s => by
    have e := congrArg Prod.snd (h _ t s)
    have := qe (show q' < 100 by omega) hq e
    omega)
  rw [show (0 : Int32) = nI 0 from rfl] at *
  rw [A, Nat.zero_add]
  obtain ⟨n, hn⟩ : ∃ n, F - q = n + 1 := ⟨F - q - 1, by omega⟩
  rw [hn, fX12_stays_L34, show (100 : Int32) = nI 100 from rfl, if_neg (by rw [nn_le (by omega) (by omega)]; omega), show (-99 : Int32) = nI 0 - 99 from rfl]
  have R := p_row1 (F := F) (K := fun v2 v3 v4 v5 μ => fX12_stays_L34 F n v2 v3 v4 v5 μ) (v2 := v2) hF hq hP hw hs (fun P' a b t s => b (nI_99 a hP (congrArg Prod.fst (h _ t s)))) 199 F 0 (by omega) (by omega) (Nat.zero_le _)
  rw [show (0 : Int32) = nI 0 from rfl] at R
  rw [R]
  have B := p_s34N (F := F) (v2 := v2) (v3 := 1) (v4 := enc (nI P - 99, nI q)) (ν := ν) (g := fun _ _ _ _ => none) hF (99 - q) n (q + 1) (by omega) (by omega) (fun P' q' a b c t s => by
    have e := congrArg Prod.snd (h _ t s)
    have := qe (show q' < 100 by omega) hq e
    omega)
  rw [show (1 : Int32) = nI 1 from rfl] at *
  rw [B, show q + 1 + (99 - q) = 100 by omega, p_s34e (by omega)]
theorem tV10 : tV ((1, 0) : Tg) := ⟨by decide, by decide, by decide, by decide, by unfold gcd1; decide, by decide⟩
theorem p_s34A {F : Nat} {v2 v4 : Int32} {ν : Mm} (hF : 1000 ≤ F) (h4 : 0 ≤ v4) (al : ∀ v, tV v → stay (tbR ν) v) : ∀ (d n q c : Nat), q + d = 100 → d < n → fX12_stays_L34 F n v2 (nI c) v4 (nI q) ν = tellS F v2 (nI (c + rcs d q)) v4 ν
  | _, 0, _, _, _, h => absurd h (Nat.not_lt_zero _)
  | 0, n + 1, q, c, h1, h2 => by
    rw [show q = 100 by omega, p_s34e (by omega)]
    rfl
  | d + 1, n + 1, q, c, h1, h2 => by
    rw [fX12_stays_L34, show (100 : Int32) = nI 100 from rfl, if_neg (by rw [nn_le (by omega) (by omega)]; omega), show (-99 : Int32) = nI 0 - 99 from rfl, p_rowA hF (by omega) h4 al 199 F 0 c (by omega) (by omega), p_s34A hF h4 al d n (q + 1) _ (by omega) (by omega), Nat.add_assoc]
    rfl
/-- all stay -/
theorem p_stA {F : Nat} {v2 : Int32} {ν : Mm} (hF : 1000 ≤ F) (al : ∀ v, tV v → stay (tbR ν) v) : fX12_stays_L34 F F v2 0 (-1) 0 ν = tellS F v2 12016 (enc (1, 0)) ν := by
  obtain ⟨n, hn⟩ : ∃ n, F = n + 1 := ⟨F - 1, by omega⟩
  rw [show fX12_stays_L34 F F v2 0 (-1) 0 ν = fX12_stays_L34 F (n + 1) v2 0 (-1) 0 ν by rw [← hn], fX12_stays_L34, if_neg (by decide)]
  have R := p_row1 (F := F) (q := 0) (Pw := 100) (ν := ν) (K := fun v2 v3 v4 v5 μ => fX12_stays_L34 F n v2 v3 v4 v5 μ) (v2 := v2) hF (by omega) (by omega) tV10 (al _ tV10) (fun P' a b t _ => by
    have e := t.2.2.2.2.2 rfl
    have e1 := (vC_iff (q := 0) a (by omega)).2.1
    have e2 : (nI P' - 99).toInt = 1 := e
    omega) 199 F 0 (by omega) (by omega) (by omega)
  rw [show (nI 0 - 99 : Int32) = -99 from rfl, show nI 0 = (0 : Int32) from rfl] at R
  rw [R, show (1 : Int32) = nI 1 from rfl, Nat.zero_add]
  have B := p_s34A (F := F) (v2 := v2) (v4 := enc ((1, 0) : Tg)) (ν := ν) hF (by decide) al 99 n 1 1 (by omega) (by omega)
  rw [rcs_1] at B
  exact B
