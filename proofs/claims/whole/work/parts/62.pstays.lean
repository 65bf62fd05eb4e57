/-! PURE: which tangles stay -/
theorem vC_b {G q P : Nat} : (((G == 1) && (q != 0 || P == 100)) = true) ↔ (G = 1 ∧ (q ≠ 0 ∨ P = 100)) := by simp
theorem vC_iff {P q : Nat} (hP : P < 199) (hq : q < 100) : (vCode P q = true ↔ tV (nI P - 99, nI q)) ∧ (nI P - 99).toInt = (P : Int) - 99 ∧ (nI q).toInt = q := by
  have e1 : (nI P - 99).toInt = (P : Int) - 99 := by
    rw [tz_sub (by rw [nI_toInt (by omega), show (99 : Int32).toInt = 99 from rfl]; omega), nI_toInt (by omega)]
    rfl
  have e2 : (nI q).toInt = q := nI_toInt (by omega)
  have e3 : (if P ≤ 99 then 99 - P else P - 99) = (nI P - 99).toInt.natAbs := by
    rw [e1]
    split <;> omega
  refine ⟨?_, e1, e2⟩
  unfold vCode
  rw [e3]
  constructor
  · intro h
    have h := vC_b.mp h
    refine ⟨by show -99 ≤ (nI P - 99).toInt; omega, by show (nI P - 99).toInt ≤ 99; omega, by show 0 ≤ (nI q).toInt; omega, by show (nI q).toInt ≤ 99; omega, ?_, fun z => ?_⟩
    · unfold gcd1
      show Nat.gcd (nI P - 99).toInt.natAbs (nI q).toInt.natAbs = 1
      rw [e2]
      exact h.1
    · have z' : (nI q).toInt = 0 := z
      show (nI P - 99).toInt = 1
      omega
  · rintro ⟨h1, h2, h3, h4, h5, h6⟩
    unfold gcd1 at h5
    have h5' : Nat.gcd (nI P - 99).toInt.natAbs (nI q).toInt.natAbs = 1 := h5
    have h6' : (nI q).toInt = 0 → (nI P - 99).toInt = 1 := h6
    rw [e2] at h5'
    have h7 : Nat.gcd (nI P - 99).toInt.natAbs q = 1 := h5'
    refine vC_b.mpr ⟨h7, ?_⟩
    by_cases z : q = 0
    · right
      have := h6' (by omega)
      omega
    · exact Or.inl z
theorem p_isT {F P q : Nat} {ν : Mm} (hF : 1000 ≤ F) (hP : P < 199) (hq : q < 100) : fX12_isTangle F (nI P - 99) (nI q) ν = some (b01 (vCode P q), ν) := by
  obtain ⟨v1, v2, v3⟩ := vC_iff hP hq
  have e3 : (if P ≤ 99 then 99 - P else P - 99) = (nI P - 99).toInt.natAbs := by
    rw [v2]
    split <;> omega
  unfold fX12_isTangle vCode b01
  rw [e3]
  by_cases z : q = 0
  · rw [if_pos (show nI q = 0 by rw [z]; rfl)]
    by_cases y : P = 100
    · rw [if_pos (show nI P - 99 = 1 by rw [y]; rfl), if_pos (by rw [v2, y, z]; decide)]
    · rw [if_neg (show ¬ nI P - 99 = 1 by rw [i_eq, v2]; show ¬ (P : Int) - 99 = 1; omega), if_neg (by simp [z, y])]
  · rw [if_neg (show ¬ nI q = 0 by rw [i_eq0, v3]; omega), p_off (by omega), bd2_s, nn_ab (by omega), p_greR hF (by omega) (by omega), bd2_s]
    have hg : Nat.gcd (nI P - 99).toInt.natAbs q ≤ 99 := Nat.le_trans (Nat.gcd_le_right _ (by omega)) (by omega)
    by_cases y : Nat.gcd (nI P - 99).toInt.natAbs q = 1
    · rw [if_pos (by rw [y]; rfl), if_pos (vC_b.mpr ⟨y, Or.inl z⟩)]
    · rw [if_neg (by rw [show (1 : Int32) = nI 1 from rfl, nn_inj (by omega) (by decide)]; exact y), if_neg (fun x => y (vC_b.mp x).1)]
def stay (t : Tb) (v : Tg) : Prop := (t.1 * v.1 + t.2.1 * v.2 = v.1 ∧ t.2.2.1 * v.1 + t.2.2.2 * v.2 = v.2) ∨ (t.1 * v.1 + t.2.1 * v.2 = -v.1 ∧ t.2.2.1 * v.1 + t.2.2.2 * v.2 = -v.2)
theorem p_dst {F : Nat} {ν : Mm} {v : Tg} : (stay (tbR ν) v → fX12_doesStay F v.1 v.2 ν = some (1, ν)) ∧ (¬ stay (tbR ν) v → fX12_doesStay F v.1 v.2 ν = some (0, ν)) := by
  unfold fX12_doesStay fX12_doesStay_L40 fX12_doesStay_L53 stay
  rw [show gi ν 12 0 57 = (tbR ν).1 from rfl, show gi ν 12 0 58 = (tbR ν).2.1 from rfl, show gi ν 12 0 59 = (tbR ν).2.2.1 from rfl, show gi ν 12 0 60 = (tbR ν).2.2.2 from rfl]
  generalize (tbR ν).1 * v.1 + (tbR ν).2.1 * v.2 = x
  generalize (tbR ν).2.2.1 * v.1 + (tbR ν).2.2.2 * v.2 = y
  constructor
  · rintro (⟨h1, h2⟩ | ⟨h1, h2⟩)
    · rw [if_pos h1, if_pos h2]
    · by_cases a1 : x = v.1
      · rw [if_pos a1]
        by_cases a2 : y = v.2
        · rw [if_pos a2]
        · rw [if_neg a2, if_pos h1, if_pos h2]
      · rw [if_neg a1, if_pos h1, if_pos h2]
  · intro h
    have last : (if x = -v.1 then (if y = -v.2 then some ((1 : Int32), ν) else some (0, ν)) else some (0, ν)) = some (0, ν) := by
      by_cases a1 : x = -v.1
      · rw [if_pos a1, if_neg (fun a2 => h (Or.inr ⟨a1, a2⟩))]
      · rw [if_neg a1]
    by_cases a1 : x = v.1
    · rw [if_pos a1, if_neg (fun a2 => h (Or.inl ⟨a1, a2⟩))]
      exact last
    · rw [if_neg a1]
      exact last
theorem p_99 (P : Nat) : nI P - 99 + 1 = nI (P + 1) - 99 := by
  rw [← nn_s]
  grind
theorem p_100 {P : Nat} (h : P ≤ 199) : (100 ≤ nI P - 99) ↔ 199 ≤ P := by
  have e1 : (nI P - 99).toInt = (P : Int) - 99 := by
    rw [tz_sub (by rw [nI_toInt (by omega), show (99 : Int32).toInt = 99 from rfl]; omega), nI_toInt (by omega)]
    rfl
  rw [i_le, e1, show (100 : Int32).toInt = 100 from rfl]
  omega
/-- a row's rest where none stays -/
theorem p_rowN {F q : Nat} {K : Int32 → Int32 → Int32 → Int32 → Mm → Option (Int32 × Mm)} {v2 v3 v4 : Int32} {ν : Mm} (hF : 1000 ≤ F) (hq : q < 100) : ∀ (d n P : Nat), P + d = 199 → d < n → (∀ P', P ≤ P' → P' < 199 → tV (nI P' - 99, nI q) → ¬ stay (tbR ν) (nI P' - 99, nI q)) → fX12_stays_L45 F K n v2 v3 v4 (nI q) (nI P - 99) ν = K v2 v3 v4 (nI (q + 1)) ν
  | _, 0, _, _, h, _ => absurd h (Nat.not_lt_zero _)
  | 0, n + 1, P, h1, h2, h3 => by
    rw [fX12_stays_L45, if_pos ((p_100 (by omega)).mpr (by omega)), nn_s]
  | d + 1, n + 1, P, h1, h2, h3 => by
    have rec' := p_rowN (F := F) (K := K) (v2 := v2) (v3 := v3) (v4 := v4) hF hq d n (P + 1) (by omega) (by omega) (fun P' a b => h3 P' (by omega) b)
    rw [fX12_stays_L45, if_neg (fun z => by have := (p_100 (by omega)).mp z; omega), p_isT hF (by omega) hq, bd2_s]
    unfold fX12_stays_L93 b01
    by_cases w : vCode P q = true
    · have ns := (p_dst (F := F) (ν := ν) (v := (nI P - 99, nI q))).2 (h3 P (Nat.le_refl _) (by omega) ((vC_iff (by omega) hq).1.mp w))
      rw [if_pos w, if_neg n1_0, show fX12_doesStay F (nI P - 99) (nI q) ν = some (0, ν) from ns, bd2_s, if_pos rfl, p_99]
      exact rec'
    · rw [if_neg w, if_pos rfl, p_99]
      exact rec'
/-- a row where one stays -/
theorem p_row1 {F q Pw : Nat} {K : Int32 → Int32 → Int32 → Int32 → Mm → Option (Int32 × Mm)} {v2 : Int32} {ν : Mm} (hF : 1000 ≤ F) (hq : q < 100) (hw : Pw < 199) (tw : tV (nI Pw - 99, nI q)) (sw : stay (tbR ν) (nI Pw - 99, nI q)) (un : ∀ P', P' < 199 → P' ≠ Pw → tV (nI P' - 99, nI q) → ¬ stay (tbR ν) (nI P' - 99, nI q)) : ∀ (d n P : Nat), P + d = 199 → d < n → P ≤ Pw → fX12_stays_L45 F K n v2 0 (-1) (nI q) (nI P - 99) ν = K v2 1 (enc (nI Pw - 99, nI q)) (nI (q + 1)) ν
  | _, 0, _, _, h, _ => absurd h (Nat.not_lt_zero _)
  | 0, n + 1, P, h1, h2, h3 => by omega
  | d + 1, n + 1, P, h1, h2, h3 => by
    rw [fX12_stays_L45, if_neg (fun z => by have := (p_100 (by omega)).mp z; omega), p_isT hF (by omega) hq, bd2_s]
    unfold fX12_stays_L93 b01
    by_cases e : P = Pw
    · subst e
      have ys := (p_dst (F := F) (ν := ν) (v := (nI P - 99, nI q))).1 sw
      have rec' := p_rowN (F := F) (K := K) (v2 := v2) (v3 := 1) (v4 := enc (nI P - 99, nI q)) (ν := ν) hF hq d n (P + 1) (by omega) (by omega) (fun P' a b => un P' b (by omega))
      rw [if_pos ((vC_iff hw hq).1.mpr tw), if_neg n1_0, show fX12_doesStay F (nI P - 99) (nI q) ν = some (1, ν) from ys, bd2_s, if_neg n1_0, if_neg (by decide), show fX12_numberOf F (nI P - 99) (nI q) ν = some (enc (nI P - 99, nI q), ν) from rfl, bd2_s, p_99]
      exact rec'
    · have rec' := p_row1 (F := F) (K := K) (v2 := v2) hF hq hw tw sw un d n (P + 1) (by omega) (by omega) (by omega)
      by_cases w : vCode P q = true
      · have ns := (p_dst (F := F) (ν := ν) (v := (nI P - 99, nI q))).2 (un P (by omega) e ((vC_iff (by omega) hq).1.mp w))
        rw [if_pos w, if_neg n1_0, show fX12_doesStay F (nI P - 99) (nI q) ν = some (0, ν) from ns, bd2_s, if_pos rfl, p_99]
        exact rec'
      · rw [if_neg w, if_pos rfl, p_99]
        exact rec'
def rcn : Nat → Nat → Nat → Nat
  | 0, _, _ => 0
  | d + 1, P, q => (if vCode P q = true then 1 else 0) + rcn d (P + 1) q
def rcs : Nat → Nat → Nat
  | 0, _ => 0
  | d + 1, q => rcn 199 0 q + rcs d (q + 1)
theorem rcs_1 : rcs 99 1 = 12015 := by decide +kernel
theorem p_rowA {F q : Nat} {K : Int32 → Int32 → Int32 → Int32 → Mm → Option (Int32 × Mm)} {v2 v4 : Int32} {ν : Mm} (hF : 1000 ≤ F) (hq : q < 100) (h4 : 0 ≤ v4) (al : ∀ v, tV v → stay (tbR ν) v) : ∀ (d n P c : Nat), P + d = 199 → d < n → fX12_stays_L45 F K n v2 (nI c) v4 (nI q) (nI P - 99) ν = K v2 (nI (c + rcn d P q)) v4 (nI (q + 1)) ν
  | _, 0, _, _, _, h => absurd h (Nat.not_lt_zero _)
  | 0, n + 1, P, c, h1, h2 => by
    rw [fX12_stays_L45, if_pos ((p_100 (by omega)).mpr (by omega)), nn_s]
    rfl
  | d + 1, n + 1, P, c, h1, h2 => by
    rw [fX12_stays_L45, if_neg (fun z => by have := (p_100 (by omega)).mp z; omega), p_isT hF (by omega) hq, bd2_s]
    unfold fX12_stays_L93 b01 rcn
    by_cases w : vCode P q = true
    · have ys := (p_dst (F := F) (ν := ν) (v := (nI P - 99, nI q))).1 (al _ ((vC_iff (by omega) hq).1.mp w))
      rw [if_pos w, if_neg n1_0, show fX12_doesStay F (nI P - 99) (nI q) ν = some (1, ν) from ys, bd2_s, if_neg n1_0, if_pos h4, p_99, nn_s, if_pos w, ← Nat.add_assoc]
      exact p_rowA hF hq h4 al d n (P + 1) (c + 1) (by omega) (by omega)
    · rw [if_neg w, if_pos rfl, p_99, if_neg w, Nat.zero_add]
      exact p_rowA hF hq h4 al d n (P + 1) c (by omega) (by omega)
