/-! PURE: the reference's minutes, its row and its history; the class's memory -/
theorem stS_1 {X : Xt} {seed : Int32} {e : Es} {s i : Nat} : (stS X seed e s).1 i = if i = s then dnS X seed e.2.1 (nI s) (e.1 s) else e.1 i := rfl
theorem stS_2 {X : Xt} {seed : Int32} {e : Es} {s : Nat} : (stS X seed e s).2.1 = e.2.1 := rfl
theorem stS_3 {X : Xt} {seed : Int32} {e : Es} {s : Nat} : (stS X seed e s).2.2 = e.2.2 + wth X 2 (vrS (e.1 s).1 (e.1 s).2.1 e.2.1 (nI s) 0 (e.1 s).2.2) := rfl
def Pm (c i j : Nat) : Prop := Pl c i j ∨ c = 76
theorem Pl_Pm : ∀ c i j, Pl c i j → Pm c i j := fun _ _ _ h => Or.inl h
theorem RT_Pm {ν ν' : Mm} {S : Nat} {X : Xt} (h : ag Pm ν ν') (q : RT ν S X) : RT ν' S X := RT_of (fun c j g1 g2 => ag_n h (by unfold Pm Pl; omega)) q
theorem live_Pm {ν ν' : Mm} {S : Nat} (h : ag Pm ν ν') (q : gi ν 12 0 18 = nI S) : gi ν' 12 0 18 = nI S := (ag_n h (by unfold Pm Pl; omega)).trans q
theorem ag_rq {ν : Mm} {s : Nat} {q : Tg × Int32 × Int32} : ag Pm ν (rq ν s q) := ag_tr (ag_tr (ag_si (Or.inr rfl)) (ag_si (Or.inr rfl))) (ag_si (Or.inr rfl))
theorem p_mgL {F S : Nat} {X : Xt} {seed : Int32} (hF : 1000 ≤ F) (hS2 : S < 2) (hX : Xok X) : ∀ (d n i : Nat) (ν : Mm) (e : Es), i + d = xn X → d < n → gi ν 12 0 18 = nI S → RT ν S X → gi ν 12 0 47 = seed → RW (gi ν 76 0) (xn X) e → eOk e → ∃ ν', fX12_minuteGoes_L2 F n (nI i) ν = some ν' ∧ ag Pm ν ν' ∧ RW (gi ν' 76 0) (xn X) ((goS X seed d i e).1, (goS X seed d i e).2.1 + 1, (goS X seed d i e).2.2)
  | _, 0, _, _, _, _, h, _, _, _, _, _ => absurd h (Nat.not_lt_zero _)
  | 0, n + 1, i, ν, e, h1, h2, hS, hR, hsd, hw, ho => by
    have h4 := hX.1
    rw [fX12_minuteGoes_L2, hS, if_pos ((nn_inb (by omega)).mpr hS2), nn_cl (by omega), hR.1, if_pos (by rw [nn_le (by omega) (by omega)]; omega)]
    refine ⟨_, rfl, ag_si (Or.inr rfl), ?_⟩
    obtain ⟨q1, q2, q3, q4⟩ := hw
    refine ⟨fun k hk => ?_, fun k hk => ⟨?_, ?_⟩, ?_, ?_⟩
    · rw [gi_si, if_neg (by omega)]
      exact q1 k hk
    · rw [gi_si, if_neg (by omega)]
      exact (q2 k hk).1
    · rw [gi_si, if_neg (by omega)]
      exact (q2 k hk).2
    · rw [gi_si, if_pos ⟨rfl, rfl, rfl⟩, q3]
      rfl
    · rw [gi_si, if_neg (by omega)]
      exact q4
  | d + 1, n + 1, i, ν, e, h1, h2, hS, hR, hsd, hw, ho => by
    have h4 := hX.1
    obtain ⟨q1, q2, q3, q4⟩ := hw
    have hi4 : i < 4 := by omega
    rw [fX12_minuteGoes_L2, hS, if_pos ((nn_inb (by omega)).mpr hS2), nn_cl (by omega), hR.1, if_neg (by rw [nn_le (by omega) (by omega)]; omega)]
    obtain ⟨ν1, a1, a2⟩ := p_paysR (F := F) hF hS hS2 hX hR hi4 (ho i hi4).1 (q1 i (by omega))
    have n1 : ∀ j, gi ν1 76 0 j = gi ν 76 0 j := fun j => ag_n a1 (by unfold Pl; omega)
    rw [a2, bd2_s]
    obtain ⟨ν2, b1, b2⟩ := p_dances (F := F) hF (live_Pl a1 hS) hS2 hX (RT_Pl a1 hR) hi4 (ho i hi4) ((n1 _).trans (q1 i (by omega))) ((n1 _).trans (q2 i hi4).1) ((n1 _).trans (q2 i hi4).2)
    rw [b2, bd1_s, nn_s, n1, ag_n a1 (c := 12) (i := 0) (j := 47) (by unfold Pl; omega), hsd, q3, (q2 i hi4).1, (q2 i hi4).2]
    have n2 : ∀ j, gi ν2 76 0 j = gi ν 76 0 j := fun j => (ag_n b1 (by unfold Pl; omega)).trans (n1 j)
    have s1 : ∀ k, (stS X seed e i).1 k = if k = i then dnS X seed e.2.1 (nI i) (e.1 i) else e.1 k := fun k => stS_1
    have s2 := stS_2 (X := X) (seed := seed) (e := e) (s := i)
    have s3 := stS_3 (X := X) (seed := seed) (e := e) (s := i)
    have so := stS_ok (seed := seed) hX hi4 ho
    have rec_ := fun ν' w1 w2 w3 w4 => p_mgL (F := F) (seed := seed) hF hS2 hX d n (i + 1) ν' (stS X seed e i) (by omega) (by omega) w1 w2 w3 w4 so
    rw [goS]
    generalize stS X seed e i = e2 at s1 s2 s3 rec_ ⊢
    generalize dnS X seed e.2.1 (nI i) (e.1 i) = q at s1 ⊢
    generalize wth X 2 (vrS (e.1 i).1 (e.1 i).2.1 e.2.1 (nI i) 0 (e.1 i).2.2) = pay at s3 ⊢
    have e13 : gi (rq ν2 i q) 76 0 13 = e.2.2 := by
      unfold rq
      rw [gi_si, if_neg (by omega), gi_si, if_neg (by omega), gi_si, if_neg (by omega), n2, q4]
    rw [e13]
    have a3 : ag Pm ν (si (rq ν2 i q) 76 0 13 (e.2.2 + pay)) := ag_tr (ag_tr (ag_of (ag_tr a1 b1) Pl_Pm) ag_rq) (ag_si (Or.inr rfl))
    obtain ⟨ν', r1, r2, r3⟩ := rec_ _ (live_Pm a3 hS) (RT_Pm a3 hR) ((ag_n a3 (by unfold Pm Pl; omega)).trans hsd) (by
      have g : ∀ j, j ≠ 13 → j ≠ i → j ≠ 4 + i → j ≠ 8 + i → gi (si (rq ν2 i q) 76 0 13 (e.2.2 + pay)) 76 0 j = gi ν 76 0 j := fun j g1 g2 g3 g4 => by
        unfold rq
        rw [gi_si, if_neg (by omega), gi_si, if_neg (by omega), gi_si, if_neg (by omega), gi_si, if_neg (by omega), n2]
      refine ⟨fun k hk => ?_, fun k hk => ?_, ?_, ?_⟩
      · rw [s1]
        by_cases hki : k = i
        · rw [if_pos hki, hki]
          unfold rq
          rw [gi_si, if_neg (by omega), gi_si, if_pos ⟨rfl, rfl, rfl⟩]
        · rw [if_neg hki, g k (by omega) hki (by omega) (by omega)]
          exact q1 k hk
      · rw [s1]
        by_cases hki : k = i
        · rw [if_pos hki, hki]
          unfold rq
          constructor
          · rw [gi_si, if_neg (by omega), gi_si, if_neg (by omega), gi_si, if_neg (by omega), gi_si, if_pos ⟨rfl, rfl, rfl⟩]
          · rw [gi_si, if_neg (by omega), gi_si, if_neg (by omega), gi_si, if_pos ⟨rfl, rfl, rfl⟩]
        · rw [if_neg hki, g (4 + k) (by omega) (by omega) (by omega) (by omega), g (8 + k) (by omega) (by omega) (by omega) (by omega)]
          exact q2 k hk
      · rw [g 12 (by omega) (by omega) (by omega) (by omega), s2]
        exact q3
      · rw [gi_si, if_pos ⟨rfl, rfl, rfl⟩, s3])
    exact ⟨ν', r1, ag_tr a3 r2, r3⟩
theorem p_goes {F S : Nat} {X : Xt} {seed : Int32} (hF : 1000 ≤ F) (hS2 : S < 2) (hX : Xok X) {N : Nat} (hN : N ≤ 60) : ∀ (d n i : Nat) (ν : Mm) (e : Es), i + d = N → d < n → gi ν 12 0 18 = nI S → RT ν S X → gi ν 12 0 47 = seed → RW (gi ν 76 0) (xn X) e → eOk e → ∃ ν', fX12_goes_L2 F n (nI N) (nI i) ν = some ν' ∧ ag Pm ν ν' ∧ RW (gi ν' 76 0) (xn X) (mnI X seed d e)
  | _, 0, _, _, _, _, h, _, _, _, _, _ => absurd h (Nat.not_lt_zero _)
  | 0, n + 1, i, ν, e, h1, h2, hS, hR, hsd, hw, ho => by
    rw [fX12_goes_L2, if_pos (by rw [nn_le (by omega) (by omega)]; omega)]
    exact ⟨ν, rfl, ag_rfl, hw⟩
  | d + 1, n + 1, i, ν, e, h1, h2, hS, hR, hsd, hw, ho => by
    rw [fX12_goes_L2, if_neg (by rw [nn_le (by omega) (by omega)]; omega)]
    obtain ⟨ν1, a1, a2, a3⟩ := p_mgL (F := F) hF hS2 hX (xn X) F 0 ν e (by omega) (by have := hX.1; omega) hS hR hsd hw ho
    unfold fX12_minuteGoes
    rw [show (0 : Int32) = nI 0 from rfl, a1, bd1_s, nn_s]
    obtain ⟨ν', r1, r2, r3⟩ := p_goes hF hS2 hX hN d n (i + 1) ν1 (mnS X seed e) (by omega) (by omega) (live_Pm a2 hS) (RT_Pm a2 hR) ((ag_n a2 (by unfold Pm Pl; omega)).trans hsd) a3 (mnS_ok hX ho)
    exact ⟨ν', r1, ag_tr a2 r2, r3⟩
/-- the row becomes what stands now -/
theorem p_copiesL {F S : Nat} {seed : Int32} (hS2 : S < 2) : ∀ (d n i : Nat) (ν : Mm), i + d = 14 → d < n → gi ν 12 0 18 = nI S → gi ν 62 0 S = seed → fX12_copies_L2 F n (nI i) ν = some (si (bw ν 76 0 i 14 (gi ν 75 0)) 12 0 47 seed)
  | _, 0, _, _, _, h, _, _ => absurd h (Nat.not_lt_zero _)
  | 0, n + 1, i, ν, h1, h2, hS, hsd => by
    rw [fX12_copies_L2, show (14 : Int32) = nI 14 from rfl, if_pos (by rw [nn_le (by omega) (by omega)]; omega), hS, if_pos ((nn_inb (by omega)).mpr hS2), nn_cl (by omega), hsd, bw_0 (by omega)]
  | d + 1, n + 1, i, ν, h1, h2, hS, hsd => by
    rw [fX12_copies_L2, show (14 : Int32) = nI 14 from rfl, if_neg (by rw [nn_le (by omega) (by omega)]; omega), if_pos ((nn_inb (by omega)).mpr (by omega)), nn_cl (by omega), nn_s, p_copiesL (seed := seed) hS2 d n (i + 1) _ (by omega) (by omega) (by rw [gi_si, if_neg (by omega)]; exact hS) (by rw [gi_si, if_neg (by omega)]; exact hsd), bw_s (g := gi ν 75 0) (by omega) rfl (fun z _ _ => by rw [gi_si, if_neg (by omega)])]
theorem p_copies {F S : Nat} {X : Xt} {ν : Mm} (hF : 1000 ≤ F) (hS2 : S < 2) (hS : gi ν 12 0 18 = nI S) (hR : RT ν S X) : fX12_copies F ν = some (si (bw ν 76 0 0 14 (gi ν 75 0)) 12 0 47 (xs X)) :=
  p_copiesL hS2 14 F 0 ν rfl (by omega) hS hR.2.2.1
theorem p_keepsL {F : Nat} : ∀ (d n i : Nat) (ν : Mm), i + d = 14 → d < n → fX12_keepsRow_L2 F n (nI i) ν = some (bw ν 75 0 i 14 (gi ν 76 0))
  | _, 0, _, _, _, h => absurd h (Nat.not_lt_zero _)
  | 0, n + 1, i, ν, h1, h2 => by
    rw [fX12_keepsRow_L2, show (14 : Int32) = nI 14 from rfl, if_pos (by rw [nn_le (by omega) (by omega)]; omega), bw_0 (by omega)]
  | d + 1, n + 1, i, ν, h1, h2 => by
    rw [fX12_keepsRow_L2, show (14 : Int32) = nI 14 from rfl, if_neg (by rw [nn_le (by omega) (by omega)]; omega), if_pos ((nn_inb (by omega)).mpr (by omega)), nn_cl (by omega), nn_s, p_keepsL d n (i + 1) _ (by omega) (by omega), bw_s (g := gi ν 76 0) (by omega) rfl (fun z _ _ => by rw [gi_si, if_neg (by omega)])]
theorem p_keeps {F : Nat} {ν : Mm} (hF : 1000 ≤ F) : fX12_keepsRow F ν = some (bw ν 75 0 0 14 (gi ν 76 0)) := p_keepsL 14 F 0 ν rfl (by omega)
theorem p_rec51 {F U : Nat} (hF : 1000 ≤ F) (hU : U < 40) : ∀ (d n i : Nat) (ν : Mm), i + d = 14 → d < n → gi ν 12 0 50 = nI U → fX12_records_L51 F n (nI i) ν = some (bw (si (bw ν 79 0 (14 * U + i) (14 * U + 14) (fun z => gi ν 75 0 (z - 14 * U))) 12 0 50 (nI (U + 1))) 75 0 0 14 (gi ν 76 0))
  | _, 0, _, _, _, h, _ => absurd h (Nat.not_lt_zero _)
  | 0, n + 1, i, ν, h1, h2, hu => by
    rw [fX12_records_L51, show (14 : Int32) = nI 14 from rfl, if_pos (by rw [nn_le (by omega) (by omega)]; omega), p_keeps hF, bd1_s, hu, nn_s, bw_0 (μ := ν) (lo := 14 * U + i) (by omega)]
    rfl
  | d + 1, n + 1, i, ν, h1, h2, hu => by
    rw [fX12_records_L51, show (14 : Int32) = nI 14 from rfl, if_neg (by rw [nn_le (by omega) (by omega)]; omega), if_pos ((nn_inb (by omega)).mpr (by omega)), hu, nn_mul, nn_add, if_pos ((nn_inb (by omega)).mpr (by omega)), nn_cl (by omega), nn_cl (by omega), nn_s, p_rec51 hF hU d n (i + 1) _ (by omega) (by omega) (by rw [gi_si, if_neg (by omega)]; exact hu)]
    have e : bw (si ν 79 0 (14 * U + i) (gi ν 75 0 i)) 79 0 (14 * U + (i + 1)) (14 * U + 14) (fun z => gi (si ν 79 0 (14 * U + i) (gi ν 75 0 i)) 75 0 (z - 14 * U)) = bw ν 79 0 (14 * U + i) (14 * U + 14) (fun z => gi ν 75 0 (z - 14 * U)) :=
      bw_s (g := fun z => gi ν 75 0 (z - 14 * U)) (by omega) (by show gi ν 75 0 i = gi ν 75 0 (14 * U + i - 14 * U); rw [Nat.add_sub_cancel_left]) (fun z _ _ => by show gi (si _ _ _ _ _) _ _ _ = _; rw [gi_si, if_neg (by omega)])
    rw [e]
    rfl
theorem p_rec11 {F : Nat} (hF : 1000 ≤ F) : ∀ (d n i : Nat) (ν : Mm), i + d = 546 → d < n → gi ν 12 0 50 = nI 40 → fX12_records_L11 F n (nI i) ν = fX12_records_L49 F (si (bw ν 79 0 i 546 (fun z => gi ν 79 0 (z + 14))) 12 0 50 (nI 39))
  | _, 0, _, _, _, h, _ => absurd h (Nat.not_lt_zero _)
  | 0, n + 1, i, ν, h1, h2, hu => by
    rw [fX12_records_L11, show (546 : Int32) = nI 546 from rfl, if_pos (by rw [nn_le (by omega) (by omega)]; omega), hu, bw_0 (by omega)]
    rfl
  | d + 1, n + 1, i, ν, h1, h2, hu => by
    rw [fX12_records_L11, show (546 : Int32) = nI 546 from rfl, if_neg (by rw [nn_le (by omega) (by omega)]; omega), show (14 : Int32) = nI 14 from rfl, nn_add, if_pos ((nn_inb (by omega)).mpr (by omega)), if_pos ((nn_inb (by omega)).mpr (by omega)), nn_cl (by omega), nn_cl (by omega), nn_s, p_rec11 hF d n (i + 1) _ (by omega) (by omega) (by rw [gi_si, if_neg (by omega)]; exact hu)]
    have e : bw (si ν 79 0 i (gi ν 79 0 (i + 14))) 79 0 (i + 1) 546 (fun z => gi (si ν 79 0 i (gi ν 79 0 (i + 14))) 79 0 (z + 14)) = bw ν 79 0 i 546 (fun z => gi ν 79 0 (z + 14)) :=
      bw_s (g := fun z => gi ν 79 0 (z + 14)) (by omega) rfl (fun z _ _ => by show gi (si _ _ _ _ _) _ _ _ = _; rw [gi_si, if_neg (by omega)])
    rw [e]
/-- what records writes -/
def Ph (c i j : Nat) : Prop := c = 79 ∨ c = 75 ∨ (c = 12 ∧ j = 50)
/-- the last things done are kept: the i-th block is the i + 1-st one where 40 were there -/
theorem p_records {F U : Nat} {ν : Mm} (hF : 1000 ≤ F) (hU : U ≤ 40) (hu : gi ν 12 0 50 = nI U) : ∃ ν', fX12_records F ν = some ν' ∧ ag Ph ν ν' ∧ (∀ z, z < 14 → gi ν' 75 0 z = gi ν 76 0 z) ∧
    (U = 40 → gi ν' 12 0 50 = nI 40 ∧ (∀ i, i < 39 → ∀ z, z < 14 → gi ν' 79 0 (14 * i + z) = gi ν 79 0 (14 * (i + 1) + z)) ∧ (∀ z, z < 14 → gi ν' 79 0 (14 * 39 + z) = gi ν 75 0 z)) ∧
    (U ≠ 40 → gi ν' 12 0 50 = nI (U + 1) ∧ (∀ i, i < U → ∀ z, z < 14 → gi ν' 79 0 (14 * i + z) = gi ν 79 0 (14 * i + z)) ∧ ∀ z, z < 14 → gi ν' 79 0 (14 * U + z) = gi ν 75 0 z) := by
  unfold fX12_records
  by_cases h40 : U = 40
  · subst h40
    rw [if_pos (show gi ν 12 0 50 = 40 from hu), show (0 : Int32) = nI 0 from rfl, p_rec11 hF 546 F 0 ν rfl (by omega) hu]
    unfold fX12_records_L49
    rw [show (0 : Int32) = nI 0 from rfl, p_rec51 hF (U := 39) (by omega) 14 F 0 _ rfl (by omega) (by rw [gi_si, if_pos ⟨rfl, rfl, rfl⟩])]
    refine ⟨_, rfl, ?_, fun z hz => ?_, fun _ => ⟨?_, fun i hi z hz => ?_, fun z hz => ?_⟩, fun q => absurd rfl q⟩
    · refine ⟨fun c i j h => ?_, fun c i j => rfl⟩
      unfold Ph at h
      rw [gi_bw, if_neg (by omega), gi_si, if_neg (by omega), gi_bw, if_neg (by omega), gi_si, if_neg (by omega), gi_bw, if_neg (by omega)]
    · rw [gi_bw, if_pos (by omega), gi_si, if_neg (by omega), gi_bw, if_neg (by omega)]
    · rw [gi_bw, if_neg (by omega), gi_si, if_pos ⟨rfl, rfl, rfl⟩]
    · rw [gi_bw, if_neg (by omega), gi_si, if_neg (by omega), gi_bw, if_neg (by omega), gi_si, if_neg (by omega), gi_bw, if_pos (by omega)]
      show gi ν 79 0 (14 * i + z + 14) = _
      congr 1
      omega
    · rw [gi_bw, if_neg (by omega), gi_si, if_neg (by omega), gi_bw, if_pos (by omega), gi_si, if_neg (by omega), gi_bw, if_neg (by omega)]
      rw [show 14 * 39 + z - 14 * 39 = z by omega]
  · rw [if_neg (by rw [hu, show (40 : Int32) = nI 40 from rfl, nn_inj (by omega) (by omega)]; exact h40)]
    unfold fX12_records_L49
    rw [show (0 : Int32) = nI 0 from rfl, p_rec51 hF (U := U) (by omega) 14 F 0 _ rfl (by omega) hu]
    refine ⟨_, rfl, ?_, fun z hz => ?_, fun q => absurd q h40, fun _ => ⟨?_, fun i hi z hz => ?_, fun z hz => ?_⟩⟩
    · refine ⟨fun c i j h => ?_, fun c i j => rfl⟩
      unfold Ph at h
      rw [gi_bw, if_neg (by omega), gi_si, if_neg (by omega), gi_bw, if_neg (by omega)]
    · rw [gi_bw, if_pos (by omega)]
    · rw [gi_bw, if_neg (by omega), gi_si, if_pos ⟨rfl, rfl, rfl⟩]
    · rw [gi_bw, if_neg (by omega), gi_si, if_neg (by omega), gi_bw, if_neg (by omega)]
    · rw [gi_bw, if_neg (by omega), gi_si, if_neg (by omega), gi_bw, if_pos (by omega)]
      show gi ν 75 0 (14 * U + z - 14 * U) = _
      rw [Nat.add_sub_cancel_left]
/-! the class's memory -/
/-- the row a of the class's memory is e -/
def EA (μ : Mm) (a : Nat) (e : Es) : Prop := (∀ i, i < 4 → gi μ 92 a (4 * i) = (e.1 i).1.1 ∧ gi μ 92 a (4 * i + 1) = (e.1 i).1.2 ∧ gi μ 92 a (4 * i + 2) = (e.1 i).2.1 ∧ gi μ 92 a (4 * i + 3) = (e.1 i).2.2) ∧ gi μ 92 a 16 = e.2.1 ∧ gi μ 92 a 17 = e.2.2
theorem p_putL {F a : Nat} {e : Es} : ∀ (d n i : Nat) (μ : Mm), i + d = 4 → d < n → EC μ e → (∀ k, k < i → gi μ 92 a (4 * k) = (e.1 k).1.1 ∧ gi μ 92 a (4 * k + 1) = (e.1 k).1.2 ∧ gi μ 92 a (4 * k + 2) = (e.1 k).2.1 ∧ gi μ 92 a (4 * k + 3) = (e.1 k).2.2) → ∃ μ', fX0_putInto_L10 F n a (nI i) μ = some μ' ∧ ag (fun c k _ => c = 92 ∧ k = a) μ μ' ∧ EA μ' a e
  | _, 0, _, _, _, h, _, _ => absurd h (Nat.not_lt_zero _)
  | 0, n + 1, i, μ, h1, h2, hE, hk => by
    rw [fX0_putInto_L10, show (4 : Int32) = nI 4 from rfl, if_pos (by rw [nn_le (by omega) (by omega)]; omega)]
    refine ⟨_, rfl, ag_tr (ag_si ⟨rfl, rfl⟩) (ag_si ⟨rfl, rfl⟩), fun k hk4 => ?_, ?_, ?_⟩
    · have := hk k (by omega)
      refine ⟨?_, ?_, ?_, ?_⟩ <;> rw [gi_si, if_neg (by omega), gi_si, if_neg (by omega)]
      · exact this.1
      · exact this.2.1
      · exact this.2.2.1
      · exact this.2.2.2
    · rw [gi_si, if_neg (by omega), gi_si, if_pos ⟨rfl, rfl, rfl⟩]
      exact hE.2.1
    · rw [gi_si, if_pos ⟨rfl, rfl, rfl⟩, gi_si, if_neg (by omega)]
      exact hE.2.2
  | d + 1, n + 1, i, μ, h1, h2, hE, hk => by
    rw [fX0_putInto_L10, show (4 : Int32) = nI 4 from rfl, if_neg (by rw [nn_le (by omega) (by omega)]; omega), if_pos ((nn_inb (by omega)).mpr (by omega)), nn_cl (by omega), nn_mul, show (2 : Int32) = nI 2 from rfl, show (3 : Int32) = nI 3 from rfl, nn_s (4 * i), nn_add, nn_add, if_pos ((nn_inb (by omega)).mpr (by omega)), if_pos ((nn_inb (by omega)).mpr (by omega)), if_pos ((nn_inb (by omega)).mpr (by omega)), if_pos ((nn_inb (by omega)).mpr (by omega)), nn_cl (by omega), nn_cl (by omega), nn_cl (by omega), nn_cl (by omega), nn_s i]
    have e5 : ∀ (c1 k1 j1 : Nat) (v : Int32) (m : Mm) (k j : Nat), c1 = 92 → gi (si m c1 k1 j1 v) 5 k j = gi m 5 k j := fun c1 k1 j1 v m k j h => by
      subst h
      rw [gi_si, if_neg (by omega)]
    simp only [e5]
    have hs := hE.1 i (by omega)
    have s0 : gi μ 5 i 0 = (e.1 i).1.1 := congrArg (fun q => q.1.1) hs
    have s1 : gi μ 5 i 1 = (e.1 i).1.2 := congrArg (fun q => q.1.2) hs
    have s2 : gi μ 5 i 2 = (e.1 i).2.1 := congrArg (fun q => q.2.1) hs
    have s3 : gi μ 5 i 3 = (e.1 i).2.2 := congrArg (fun q => q.2.2) hs
    rw [s0, s1, s2, s3]
    have a3 : ag (fun c k _ => c = 92 ∧ k = a) μ (si (si (si (si μ 92 a (4 * i) (e.1 i).1.1) 92 a (4 * i + 1) (e.1 i).1.2) 92 a (4 * i + 2) (e.1 i).2.1) 92 a (4 * i + 3) (e.1 i).2.2) := ag_tr (ag_tr (ag_tr (ag_si ⟨rfl, rfl⟩) (ag_si ⟨rfl, rfl⟩)) (ag_si ⟨rfl, rfl⟩)) (ag_si ⟨rfl, rfl⟩)
    obtain ⟨μ', r1, r2, r3⟩ := p_putL d n (i + 1) _ (by omega) (by omega) (show EC (si (si (si (si μ 92 a (4 * i) (e.1 i).1.1) 92 a (4 * i + 1) (e.1 i).1.2) 92 a (4 * i + 2) (e.1 i).2.1) 92 a (4 * i + 3) (e.1 i).2.2) e from ⟨fun k hk => (sqC_ag a3 (fun j => by omega)).trans (hE.1 k hk), (ag_n a3 (by omega)).trans hE.2.1, (ag_n a3 (by omega)).trans hE.2.2⟩) (fun k hk2 => by
      by_cases hki : k = i
      · subst hki
        refine ⟨?_, ?_, ?_, ?_⟩
        · rw [gi_si, if_neg (by omega), gi_si, if_neg (by omega), gi_si, if_neg (by omega), gi_si, if_pos ⟨rfl, rfl, rfl⟩]
        · rw [gi_si, if_neg (by omega), gi_si, if_neg (by omega), gi_si, if_pos ⟨rfl, rfl, rfl⟩]
        · rw [gi_si, if_neg (by omega), gi_si, if_pos ⟨rfl, rfl, rfl⟩]
        · rw [gi_si, if_pos ⟨rfl, rfl, rfl⟩]
      · have := hk k (by omega)
        refine ⟨?_, ?_, ?_, ?_⟩ <;> rw [gi_si, if_neg (by omega), gi_si, if_neg (by omega), gi_si, if_neg (by omega), gi_si, if_neg (by omega)]
        · exact this.1
        · exact this.2.1
        · exact this.2.2.1
        · exact this.2.2.2)
    exact ⟨μ', r1, ag_tr a3 r2, r3⟩
theorem p_put {F a : Nat} {e : Es} {μ : Mm} (hF : 1000 ≤ F) (hE : EC μ e) : ∃ μ', fX0_putInto F a μ = some μ' ∧ ag (fun c k _ => c = 92 ∧ k = a) μ μ' ∧ EA μ' a e := p_putL 4 F 0 μ rfl (by omega) hE (fun k hk => absurd hk (Nat.not_lt_zero _))
/-- what taking an evening back writes in the class -/
def St (c i j : Nat) : Prop := (c = 5 ∧ i < 4) ∨ (c = 0 ∧ (j = 1 ∨ j = 2))
theorem p_takeL {F a : Nat} {e : Es} : ∀ (d n i : Nat) (μ : Mm), i + d = 4 → d < n → EA μ a e → (∀ k, k < i → sqC μ k = e.1 k) → ∃ μ', fX0_takeFrom_L10 F n a (nI i) μ = some μ' ∧ ag St μ μ' ∧ EC μ' e
  | _, 0, _, _, _, h, _, _ => absurd h (Nat.not_lt_zero _)
  | 0, n + 1, i, μ, h1, h2, hE, hk => by
    rw [fX0_takeFrom_L10, show (4 : Int32) = nI 4 from rfl, if_pos (by rw [nn_le (by omega) (by omega)]; omega)]
    refine ⟨_, rfl, ag_tr (ag_si (Or.inr ⟨rfl, Or.inl rfl⟩)) (ag_si (Or.inr ⟨rfl, Or.inr rfl⟩)), fun k hk4 => ?_, ?_, ?_⟩
    · rw [← hk k (by omega)]
      simp [sqC, tgC, gi_si]
    · rw [gi_si, if_neg (by omega), gi_si, if_pos ⟨rfl, rfl, rfl⟩]
      exact hE.2.1
    · rw [gi_si, if_pos ⟨rfl, rfl, rfl⟩, gi_si, if_neg (by omega)]
      exact hE.2.2
  | d + 1, n + 1, i, μ, h1, h2, hE, hk => by
    rw [fX0_takeFrom_L10, show (4 : Int32) = nI 4 from rfl, if_neg (by rw [nn_le (by omega) (by omega)]; omega), if_pos ((nn_inb (by omega)).mpr (by omega)), nn_cl (by omega), nn_mul, show (2 : Int32) = nI 2 from rfl, show (3 : Int32) = nI 3 from rfl, nn_s (4 * i), nn_add, nn_add, if_pos ((nn_inb (by omega)).mpr (by omega)), if_pos ((nn_inb (by omega)).mpr (by omega)), if_pos ((nn_inb (by omega)).mpr (by omega)), if_pos ((nn_inb (by omega)).mpr (by omega)), nn_cl (by omega), nn_cl (by omega), nn_cl (by omega), nn_cl (by omega), nn_s i]
    have e5 : ∀ (c1 k1 j1 : Nat) (v : Int32) (m : Mm) (k j : Nat), c1 = 5 → gi (si m c1 k1 j1 v) 92 k j = gi m 92 k j := fun c1 k1 j1 v m k j h => by
      subst h
      rw [gi_si, if_neg (by omega)]
    simp only [e5]
    obtain ⟨s0, s1, s2, s3⟩ := hE.1 i (by omega)
    rw [s0, s1, s2, s3]
    have ep : si (si (si (si μ 5 i 0 (e.1 i).1.1) 5 i 1 (e.1 i).1.2) 5 i 2 (e.1 i).2.1) 5 i 3 (e.1 i).2.2 = pq μ i (e.1 i) := rfl
    rw [ep]
    have a3 : ag St μ (pq μ i (e.1 i)) := ag_pq (fun j => Or.inl ⟨rfl, by omega⟩)
    obtain ⟨μ', r1, r2, r3⟩ := p_takeL d n (i + 1) (pq μ i (e.1 i)) (by omega) (by omega) ⟨fun k hk => by
      have := hE.1 k hk
      rw [pq_gi (by omega), pq_gi (by omega), pq_gi (by omega), pq_gi (by omega)]
      exact this, by rw [pq_gi (by omega)]; exact hE.2.1, by rw [pq_gi (by omega)]; exact hE.2.2⟩ (fun k hk2 => by
      by_cases hki : k = i
      · rw [hki, sqC_pq]
      · rw [sqC_pq_ne hki]
        exact hk k (by omega))
    exact ⟨μ', r1, ag_tr a3 r2, r3⟩
theorem p_take {F a : Nat} {e : Es} {μ : Mm} (hF : 1000 ≤ F) (hE : EA μ a e) : ∃ μ', fX0_takeFrom F a μ = some μ' ∧ ag St μ μ' ∧ EC μ' e := p_takeL 4 F 0 μ rfl (by omega) hE (fun k hk => absurd hk (Nat.not_lt_zero _))
