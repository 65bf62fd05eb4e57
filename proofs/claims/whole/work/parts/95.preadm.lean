/-! PURE: read, the evening begins anew -/
def tgO (o : Option Tg) : Tg := match o with
  | some u => u
  | none => (0, 1)
def e0S (n : Nat) (qs : Nat → List (Int32 × Int32)) : Es := (fun i => if i < n then (tgO (mkl (qs i) (0, 1)), 0, 0) else ((0, 1), 0, 0), 0, 0)
def rowsOk (T n : Nat) (qs : Nat → List (Int32 × Int32)) (μ : Mm) : Prop := ∀ i, i < n → RwC μ (9 * T + i) (qs i) ∧ (∀ w ∈ qs i, mvw w) ∧ (mkl (qs i) (0, 1)).isSome = true
theorem tgO_V {n : Nat} {qs : Nat → List (Int32 × Int32)} {T : Nat} {μ : Mm} {i : Nat} (h : rowsOk T n qs μ) (hi : i < n) : mkl (qs i) (0, 1) = some (tgO (mkl (qs i) (0, 1))) ∧ tV (tgO (mkl (qs i) (0, 1))) := by
  obtain ⟨_, h2, h3⟩ := h i hi
  cases e : mkl (qs i) (0, 1) with
  | none =>
    rw [e] at h3
    cases h3
  | some u => exact ⟨rfl, tV_mkl _ _ _ h2 tV01 e⟩
theorem e0S_G {n : Nat} {qs : Nat → List (Int32 × Int32)} {T : Nat} {μ : Mm} (h : rowsOk T n qs μ) : eG n (e0S n qs) := by
  refine ⟨fun i hi => ?_, fun i h1 h2 => ?_⟩
  · show qOk (if i < n then (tgO (mkl (qs i) (0, 1)), 0, 0) else ((0, 1), 0, 0))
    by_cases y : i < n
    · rw [if_pos y]
      exact ⟨(tgO_V h y).2, show 0 ≤ (0 : Int32).toInt by decide, show (0 : Int32).toInt ≤ 999 by decide⟩
    · rw [if_neg y]
      exact ⟨tV01, by decide, by decide⟩
  · show (if i < n then (tgO (mkl (qs i) (0, 1)), (0 : Int32), (0 : Int32)) else ((0, 1), 0, 0)).2 = (0, 0)
    rw [if_neg (by omega)]
theorem p_begL {F T n : Nat} {qs : Nat → List (Int32 × Int32)} (hF : 1000 ≤ F) (hn : n ≤ 4) : ∀ (d m i : Nat) (μ : Mm), i + d = 4 → d < m → gi μ 8 T 0 = nI n → rowsOk T n qs μ → ∃ μ', fX0_begin_L12 F m T (nI i) μ = some μ' ∧ fr (fun c k _ => c = 5 ∧ i ≤ k ∧ k < 4) (fun _ => False) μ μ' ∧ ∀ z, i ≤ z → z < 4 → sqC μ' z = (e0S n qs).1 z
  | _, 0, _, _, _, h, _, _ => absurd h (Nat.not_lt_zero _)
  | 0, m + 1, i, μ, h1, h2, h8, hr => by
    rw [fX0_begin_L12, if_pos (by rw [show (4 : Int32) = nI 4 from rfl, nn_le (by omega) (by omega)]; omega)]
    exact ⟨μ, rfl, fr_rfl, fun z g1 g2 => by omega⟩
  | d + 1, m + 1, i, μ, h1, h2, h8, hr => by
    rw [fX0_begin_L12, if_neg (by rw [show (4 : Int32) = nI 4 from rfl, nn_le (by omega) (by omega)]; omega), if_pos ((nn_inb (by omega)).mpr (by omega)), nn_cl (by omega)]
    unfold fX5_letGo fX0_begin_L72
    rw [bd1_s]
    generalize hμ7 : si (si (si (si μ 5 i 0 0) 5 i 1 1) 5 i 2 0) 5 i 3 0 = μ7
    have f7 : fr (fun c k _ => c = 5 ∧ i ≤ k ∧ k < 4) (fun _ => False) μ μ7 := by
      rw [← hμ7]
      exact fr_tr (fr_tr (fr_tr (fr_si ⟨rfl, by omega, by omega⟩) (fr_si ⟨rfl, by omega, by omega⟩)) (fr_si ⟨rfl, by omega, by omega⟩)) (fr_si ⟨rfl, by omega, by omega⟩)
    have s7 : sqC μ7 i = ((0, 1), 0, 0) := by
      rw [← hμ7]
      unfold sqC tgC
      rw [gi_ne (by omega), gi_ne (by omega), gi_ne (by omega), gi_eq, gi_ne (by omega), gi_ne (by omega), gi_eq, gi_ne (by omega), gi_eq, gi_eq]
    have e8 : gi μ7 8 T 0 = nI n := (fr_n f7 (by omega)).trans h8
    have r7 : rowsOk T n qs μ7 := fun z hz => ⟨RwC_fr f7 (fun c j hc => by omega) (hr z hz).1, (hr z hz).2⟩
    rw [e8]
    have go : ∀ (μa : Mm), fr (fun c k _ => c = 5 ∧ k = i) (fun _ => False) μ7 μa → sqC μa i = (e0S n qs).1 i → ∃ μ', fX0_begin_L12 F m T (nI i + 1) μa = some μ' ∧ fr (fun c k _ => c = 5 ∧ i ≤ k ∧ k < 4) (fun _ => False) μ μ' ∧ ∀ z, i ≤ z → z < 4 → sqC μ' z = (e0S n qs).1 z := fun μa fa sa => by
      obtain ⟨μ', q1, q2, q3⟩ := p_begL hF hn d m (i + 1) μa (by omega) (by omega) ((fr_n fa (by omega)).trans e8) (fun z hz => ⟨RwC_fr fa (fun c j hc => by omega) (r7 z hz).1, (r7 z hz).2⟩)
      rw [nn_s]
      refine ⟨μ', q1, fr_tr f7 (fr_tr (fr_of fa (fun c k j w => ⟨w.1, by have := w.2; omega, by have := w.2; omega⟩) (fun c w => w)) (fr_of q2 (fun c k j w => ⟨w.1, by have := w.2.1; omega, w.2.2⟩) (fun c w => w))), fun z g1 g2 => ?_⟩
      by_cases y : z = i
      · rw [y, ← sa]
        unfold sqC tgC
        rw [fr_n q2 (by omega), fr_n q2 (by omega), fr_n q2 (by omega), fr_n q2 (by omega)]
      · exact q3 z (by omega) g2
    by_cases y : n ≤ i
    · rw [if_pos ((nn_le (by omega) (by omega)).mpr y)]
      exact go μ7 fr_rfl (by
        rw [s7]
        show _ = (if i < n then _ else _)
        rw [if_neg (by omega)])
    · rw [if_neg (fun w => y ((nn_le (by omega) (by omega)).mp w))]
      have tg7 : tgC μ7 i = (0, 1) := congrArg Prod.fst s7
      obtain ⟨x1, x2, x3⟩ := r7 i (by omega)
      have l8 := x1.2.1
      obtain ⟨t', b1, b2⟩ := p_makesX (F := F) (i := i) (a := 8) hF x1 (by
        rw [show (8 : Int32) = nI 8 from rfl, nn_mn (by omega) (by omega), Nat.min_eq_right l8]) x2 (by rw [tg7]; exact tV01)
      rw [tg7] at b1 b2
      obtain ⟨v1, v2⟩ := tgO_V r7 (show i < n by omega)
      have et := b2 _ v1
      rw [b1, bd2_s]
      refine go (pt μ7 i t') (fr_tr (fr_si ⟨rfl, rfl⟩) (fr_si ⟨rfl, rfl⟩)) ?_
      show sqC (pt μ7 i t') i = (if i < n then _ else _)
      rw [if_pos (by omega), et]
      unfold sqC
      rw [tgC_pt]
      have e2 : gi μ7 5 i 2 = 0 := congrArg (fun x => x.2.1) s7
      have e3 : gi μ7 5 i 3 = 0 := congrArg (fun x => x.2.2) s7
      unfold pt
      rw [gi_ne (by omega), gi_ne (by omega), gi_ne (by omega), gi_ne (by omega), e2, e3]
theorem p_begC {F T n : Nat} {qs : Nat → List (Int32 × Int32)} {μ : Mm} (hF : 1000 ≤ F) (hn : n ≤ 4) (h8 : gi μ 8 T 0 = nI n) (hr : rowsOk T n qs μ) : ∃ μ', fX0_begin F T μ = some μ' ∧ fr (fun c i j => (c = 5 ∧ i < 4) ∨ (c = 0 ∧ (j = 1 ∨ j = 2))) (fun _ => False) μ μ' ∧ EC μ' (e0S n qs) := by
  have f0 : fr (fun c i j => c = 0 ∧ (j = 1 ∨ j = 2)) (fun _ => False) μ (si (si μ 0 0 1 0) 0 0 2 0) := fr_tr (fr_si ⟨rfl, Or.inl rfl⟩) (fr_si ⟨rfl, Or.inr rfl⟩)
  obtain ⟨μ', a1, a2, a3⟩ := p_begL (F := F) (T := T) (qs := qs) hF hn 4 F 0 (si (si μ 0 0 1 0) 0 0 2 0) rfl (by omega) ((fr_n f0 (by omega)).trans h8) (fun z hz => ⟨RwC_fr f0 (fun c j hc => by omega) (hr z hz).1, (hr z hz).2⟩)
  unfold fX0_begin
  refine ⟨μ', a1, fr_tr (fr_of f0 (fun c i j q => Or.inr q) (fun c q => q)) (fr_of a2 (fun c i j q => Or.inl ⟨q.1, q.2.2⟩) (fun c q => q)), fun i hi => a3 i (Nat.zero_le _) hi, ?_, ?_⟩
  · rw [fr_n a2 (by omega), gi_ne (by omega), gi_eq]
    rfl
  · rw [fr_n a2 (by omega), gi_eq]
    rfl
theorem p_clrM {F : Nat} {μ : Mm} (hF : 1000 ≤ F) : ∃ μ', fX1_clear F μ = some μ' ∧ fr (fun c i j => (c = 1 ∧ j = 0) ∨ c = 23) (fun _ => False) μ μ' ∧ gi μ' 1 0 0 = 0 ∧ ∀ s, s < 3 → gi μ' 23 0 s = 0 := by
  have L : ∀ (d n k : Nat) (μ : Mm), k + d = 3 → d < n → ∃ μ', fX1_clear_L7 F n (nI k) μ = some μ' ∧ fr (fun c _ _ => c = 23) (fun _ => False) μ μ' ∧ (∀ z, k ≤ z → z < 3 → gi μ' 23 0 z = 0) ∧ ∀ z, z < k → gi μ' 23 0 z = gi μ 23 0 z := by
    intro d
    induction d with
    | zero =>
      intro n k μ h1 h2
      obtain ⟨n, rfl⟩ : ∃ x, n = x + 1 := ⟨n - 1, by omega⟩
      rw [fX1_clear_L7, if_pos (by rw [show (3 : Int32) = nI 3 from rfl, nn_le (by omega) (by omega)]; omega)]
      exact ⟨μ, rfl, fr_rfl, fun z g1 g2 => by omega, fun z _ => rfl⟩
    | succ d ih =>
      intro n k μ h1 h2
      obtain ⟨n, rfl⟩ : ∃ x, n = x + 1 := ⟨n - 1, by omega⟩
      rw [fX1_clear_L7, if_neg (by rw [show (3 : Int32) = nI 3 from rfl, nn_le (by omega) (by omega)]; omega), if_pos ((nn_inb (by omega)).mpr (by omega)), nn_cl (by omega), nn_s]
      obtain ⟨μ', r1, r2, r3, r4⟩ := ih n (k + 1) (si μ 23 0 k (vp_nar .boolean 0)) (by omega) (by omega)
      refine ⟨μ', r1, fr_tr (fr_si rfl) r2, fun z g1 g2 => ?_, fun z g1 => (r4 z (by omega)).trans (gi_ne (by omega))⟩
      by_cases y : z = k
      · rw [r4 z (by omega), y, gi_eq]
        exact nar1.2
      · exact r3 z (by omega) g2
  unfold fX1_clear
  obtain ⟨μ', r1, r2, r3, r4⟩ := L 3 F 0 (si μ 1 0 0 0) rfl (by omega)
  exact ⟨μ', r1, fr_tr (fr_si (Or.inl ⟨rfl, rfl⟩)) (fr_of r2 (fun c i j q => Or.inr q) (fun c q => q)), (fr_n r2 (by omega)).trans gi_eq, fun s hs => r3 s (Nat.zero_le _) hs⟩
theorem p_219 {F : Nat} : ∀ (d n k : Nat) (ν : Mm), k + d = 3 → d < n → ∃ ν', fX12_read_L219 F n (nI k) ν = some (0, ν') ∧ fr (fun c _ _ => c = 90) (fun _ => False) ν ν' ∧ (∀ z, k ≤ z → z < 3 → gi ν' 90 0 z = 0) ∧ ∀ z, z < k → gi ν' 90 0 z = gi ν 90 0 z
  | _, 0, _, _, _, h => absurd h (Nat.not_lt_zero _)
  | 0, n + 1, k, ν, h1, h2 => by
    rw [fX12_read_L219, if_pos (by rw [show (3 : Int32) = nI 3 from rfl, nn_le (by omega) (by omega)]; omega)]
    exact ⟨ν, rfl, fr_rfl, fun z g1 g2 => by omega, fun z _ => rfl⟩
  | d + 1, n + 1, k, ν, h1, h2 => by
    rw [fX12_read_L219, if_neg (by rw [show (3 : Int32) = nI 3 from rfl, nn_le (by omega) (by omega)]; omega), if_pos ((nn_inb (by omega)).mpr (by omega)), nn_cl (by omega), nn_s]
    obtain ⟨ν', r1, r2, r3, r4⟩ := p_219 (F := F) d n (k + 1) (si ν 90 0 k (vp_nar .boolean 0)) (by omega) (by omega)
    refine ⟨ν', r1, fr_tr (fr_si rfl) r2, fun z g1 g2 => ?_, fun z g1 => (r4 z (by omega)).trans (gi_ne (by omega))⟩
    by_cases y : z = k
    · rw [r4 z (by omega), y, gi_eq]
      exact nar1.2
    · exact r3 z (by omega) g2
/-- the reference's evening begins -/
theorem p_begR2 {F S n : Nat} (hS : S < 2) (hn : n ≤ 4) : ∀ (d m i : Nat) (ν : Mm), i + d = n → d < m → gi ν 12 0 18 = nI S → gi ν 56 0 S = nI n → ∃ ν', fX12_begins_L23 F m (nI i) ν = some ν' ∧ fr (fun c _ j => (c = 76 ∧ i ≤ j ∧ j < n) ∨ (c = 12 ∧ j = 47)) (fun _ => False) ν ν' ∧ ∀ z, i ≤ z → z < n → gi ν' 76 0 z = gi ν 61 0 (4 * S + z)
  | _, 0, _, _, _, h, _, _ => absurd h (Nat.not_lt_zero _)
  | 0, m + 1, i, ν, h1, h2, h18, h56 => by
    rw [fX12_begins_L23, h18, if_pos ((nn_inb (by omega)).mpr hS), nn_cl (by omega), h56, if_pos (by rw [nn_le (by omega) (by omega)]; omega)]
    exact ⟨_, rfl, fr_si (Or.inr ⟨rfl, rfl⟩), fun z g1 g2 => by omega⟩
  | d + 1, m + 1, i, ν, h1, h2, h18, h56 => by
    rw [fX12_begins_L23, h18, if_pos ((nn_inb (by omega)).mpr hS), nn_cl (by omega), h56, if_neg (by rw [nn_le (by omega) (by omega)]; omega), show (4 : Int32) = nI 4 from rfl, nn_mul, nn_add, if_pos ((nn_inb (by omega)).mpr (by omega)), if_pos ((nn_inb (by omega)).mpr (by omega)), nn_cl (by omega), nn_cl (by omega), nn_s]
    obtain ⟨ν', r1, r2, r3⟩ := p_begR2 (F := F) hS hn d m (i + 1) (si ν 76 0 i (gi ν 61 0 (4 * S + i))) (by omega) (by omega) ((gi_ne (by omega)).trans h18) ((gi_ne (by omega)).trans h56)
    refine ⟨ν', r1, fr_tr (fr_si (Or.inl ⟨rfl, Nat.le_refl _, by omega⟩)) (fr_of r2 (fun c k j q => by omega) (fun c q => q)), fun z g1 g2 => ?_⟩
    by_cases y : z = i
    · rw [y, fr_n r2 (by omega), gi_eq]
    · rw [r3 z (by omega) g2, gi_ne (by omega)]
theorem p_begR1 {F : Nat} : ∀ (d m i : Nat) (ν : Mm), i + d = 14 → d < m → fX12_begins_L2 F m (nI i) ν = fX12_begins_L23 F F 0 (bw ν 76 0 i 14 (fun _ => 0))
  | _, 0, _, _, _, h => absurd h (Nat.not_lt_zero _)
  | 0, m + 1, i, ν, h1, h2 => by
    rw [fX12_begins_L2, show (14 : Int32) = nI 14 from rfl, if_pos (by rw [nn_le (by omega) (by omega)]; omega), bw_0 (by omega)]
  | d + 1, m + 1, i, ν, h1, h2 => by
    rw [fX12_begins_L2, show (14 : Int32) = nI 14 from rfl, if_neg (by rw [nn_le (by omega) (by omega)]; omega), if_pos ((nn_inb (by omega)).mpr (by omega)), nn_cl (by omega), nn_s, p_begR1 d m (i + 1) _ (by omega) (by omega), bw_s (g := fun _ => 0) (by omega) rfl (fun _ _ _ => rfl)]
theorem p_begR {F S n : Nat} {qs : Nat → List (Int32 × Int32)} {T : Nat} {μ ν : Mm} (hF : 1000 ≤ F) (hS : S < 2) (hn : n ≤ 4) (h18 : gi ν 12 0 18 = nI S) (h56 : gi ν 56 0 S = nI n) (hr : rowsOk T n qs μ) (h61 : ∀ i, i < n → gi ν 61 0 (4 * S + i) = atR (mkl (qs i) (0, 1))) : ∃ ν', fX12_begins F ν = some ν' ∧ fr (fun c _ j => c = 76 ∨ (c = 12 ∧ j = 47)) (fun _ => False) ν ν' ∧ RW (gi ν' 76 0) n (e0S n qs) := by
  have g : fr (fun c _ j => c = 76 ∨ (c = 12 ∧ j = 47)) (fun _ => False) ν (bw ν 76 0 0 14 (fun _ => 0)) := ⟨fun c i j q => by rw [gi_bw, if_neg (by omega)], fun _ _ _ _ => rfl⟩
  obtain ⟨ν', r1, r2, r3⟩ := p_begR2 (F := F) hS hn n F 0 (bw ν 76 0 0 14 (fun _ => 0)) (by omega) (by omega) ((fr_n g (by omega)).trans h18) ((fr_n g (by omega)).trans h56)
  have b0 := p_begR1 (F := F) 14 F 0 ν rfl (by omega)
  rw [show (nI 0 : Int32) = 0 from rfl] at b0 r1
  unfold fX12_begins
  rw [b0]
  have z : ∀ j, n ≤ j → j < 14 → gi ν' 76 0 j = 0 := fun j h1 h2 => by
    rw [fr_n r2 (by omega), gi_bw, if_pos (by omega)]
  refine ⟨ν', r1, fr_tr g (fr_of r2 (fun c i j q => by omega) (fun c q => q)), ?_, fun i hi => ⟨?_, ?_⟩, ?_, ?_⟩
  · intro i hi
    rw [r3 i (Nat.zero_le _) hi, fr_n g (by omega), h61 i hi]
    show _ = enc (if i < n then (tgO (mkl (qs i) (0, 1)), (0 : Int32), (0 : Int32)) else ((0, 1), 0, 0)).1
    rw [if_pos hi]
    have v := (tgO_V hr hi).1
    rw [v]
    rfl
  · show gi ν' 76 0 (4 + i) = (if i < n then (tgO (mkl (qs i) (0, 1)), (0 : Int32), (0 : Int32)) else ((0, 1), 0, 0)).2.1
    rw [z _ (by omega) (by omega)]
    split <;> rfl
  · show gi ν' 76 0 (8 + i) = (if i < n then (tgO (mkl (qs i) (0, 1)), (0 : Int32), (0 : Int32)) else ((0, 1), 0, 0)).2.2
    rw [z _ (by omega) (by omega)]
    split <;> rfl
  · rw [z _ (by omega) (by omega)]
    rfl
  · rw [z _ (by omega) (by omega)]
    rfl
/-! the text that was read -/
def mkX (X : (Nat × Nat × Int32) × (Nat → List (Int32 × Int32)) × (Nat → List (Int32 × Int32)) × (Nat → List Br × List Int32)) : Xt := (X.1, (fun f => (X.2.2.1 f).length), (fun f j => (X.2.2.1 f).getD j (0, 0)), X.2.2.2)
theorem tbs_fold : ∀ (l pre : List (Int32 × Int32)) (t : Tb), tbs (fun j => (pre ++ l).getD j (0, 0)) l.length pre.length t = l.foldl (fun t w => tb1 w t) t
  | [], pre, t => rfl
  | w :: l, pre, t => by
    show tbs (fun j => (pre ++ w :: l).getD j (0, 0)) l.length (pre.length + 1) (tb1 ((pre ++ w :: l).getD pre.length (0, 0)) t) = l.foldl (fun t w => tb1 w t) (tb1 w t)
    have e1 : (pre ++ w :: l).getD pre.length (0, 0) = w := by
      rw [List.getD_eq_getElem?_getD, List.getElem?_append_right (Nat.le_refl _), Nat.sub_self]
      rfl
    rw [e1]
    have q := tbs_fold l (pre ++ [w]) (tb1 w t)
    rw [List.length_append, List.length_singleton, List.append_assoc] at q
    exact q
theorem getD_at {l : List (Int32 × Int32)} {j : Nat} (h : j < l.length) : l.getD j (0, 0) = l[j] := by
  rw [List.getD_eq_getElem?_getD, List.getElem?_eq_getElem h]
  rfl
theorem RD_X {T S N t : Nat} {K : Nat → Tk} {D : Int32 × Int32} {X : (Nat × Nat × Int32) × (Nat → List (Int32 × Int32)) × (Nat → List (Int32 × Int32)) × (Nat → List Br × List Int32)} {μ ν : Mm} (hS : S < 2) (g : Gk K N) (h : RD T S K N t D X μ ν) (hD : D.1 = 0) : Xok (mkX X) ∧ CT μ T (mkX X) ∧ RT ν S (mkX X) ∧ rowsOk T X.1.1 X.2.1 μ ∧ ∀ i, i < X.1.1 → gi ν 61 0 (4 * S + i) = atR (mkl (X.2.1 i) (0, 1)) := by
  obtain ⟨⟨n, m, sd⟩, qs, fs, lb⟩ := X
  obtain ⟨nms, P, b, C, ⟨⟨hl, hlr, h12, h19⟩, n4, m5, e0, e1, e2, x56, x57, x62⟩, rq, rf, rl, ⟨⟨d1, d2, d3, d4⟩, nl, nc, nr⟩, c1, c2, c3, c4, c5, c6, c7, c8⟩ := h
  have rq : RDq T S n qs D μ ν := rq
  have rf : RDf T S m fs D μ ν := rf
  have rl : RDl T S P b C lb μ ν := rl
  have t4 : t ≤ 400 := Nat.le_trans hlr.2.2.2 g.1.1
  refine ⟨⟨n4, m5, fun f hf => ⟨(rf f hf).1.2.1, fun j hj => ?_⟩, fun k hk => (rl k hk).1⟩, ⟨e0, e1, e2, fun f hf => ?_, P, by omega, c1, fun k hk => (rl k hk).2.1⟩, ⟨x56, x57, x62, fun f hf => ?_, fun k hk => ?_⟩, fun i hi => ⟨(rq i hi).1, (rq i hi).2.1, (rq i hi).2.2.2 hD⟩, fun i hi => (rq i hi).2.2.1⟩
  · have hj : j < (fs f).length := hj
    show mvok ((fs f).getD j (0, 0))
    rw [getD_at hj]
    exact (rf f hf).2.2 hD _ (List.getElem_mem hj)
  · obtain ⟨⟨a1, a2, a3, a4⟩, _⟩ := rf f hf
    refine ⟨a1, fun j hj => ?_, ?_⟩
    · have hj : j < (fs f).length := hj
      show gi μ 25 (9 * T + 4 + f) j = ((fs f).getD j (0, 0)).1 ∧ gi μ 26 (9 * T + 4 + f) j = ((fs f).getD j (0, 0)).2
      rw [getD_at hj]
      exact a3 j hj
    · rw [a4]
      exact (tbs_fold (fs f) [] tb0).symm
  · obtain ⟨_, ⟨a1, a2⟩, _⟩ := rf f hf
    refine ⟨a1, fun j hj => ?_⟩
    have hj : j < (fs f).length := hj
    show gi ν 59 0 (8 * (9 * S + 4 + f) + j) = ((fs f).getD j (0, 0)).1 ∧ gi ν 60 0 (8 * (9 * S + 4 + f) + j) = ((fs f).getD j (0, 0)).2
    rw [getD_at hj]
    exact a2 j hj
  · rcases (rl k hk).2.2 with ⟨b0, i1, i2, i3, i4, i5⟩ | ⟨i1, i2⟩
    · have e4 : (4 * S + k) / 4 = S := by omega
      refine Or.inl ⟨b0, i1, i2, ?_, ?_⟩
      · rw [e4]
        exact ⟨by show b0 + (lb k).1.length < 130 * S + 130; omega, i3⟩
      · rw [e4]
        exact rBx_kp (Nat.le_refl _) (by omega) _ _ _ (fun _ _ _ _ _ _ => rfl) (fun _ _ _ _ _ => rfl) i5
    · exact Or.inr ⟨i1, i2⟩
