/-! PURE: read -/
def FRC (T c i j : Nat) : Prop := FTC T c i j ∨ c = 2 ∨ c = 7 ∨ (30 ≤ c ∧ c ≤ 32)
def QC (c : Nat) : Prop := c = 7 ∨ c = 33 ∨ c = 36
def FRR (S c i j : Nat) : Prop := FTR S c i j ∨ (49 ≤ c ∧ c ≤ 52) ∨ (c = 12 ∧ (j = 2 ∨ j = 4 ∨ j = 10 ∨ j = 12 ∨ j = 17 ∨ j = 19))
def QR (c : Nat) : Prop := c = 53 ∨ c = 55
theorem CT_keep {T : Nat} {X : Xt} {μ μ' : Mm} (hX : Xok X) (h8 : ∀ j, gi μ' 8 T j = gi μ 8 T j) (hr : ∀ c f j, (c = 3 ∨ c = 25 ∨ c = 26 ∨ c = 6) → f < 5 → gi μ' c (9 * T + 4 + f) j = gi μ c (9 * T + 4 + f) j) (h37 : ∀ j, gi μ' 37 T j = gi μ 37 T j) (h38 : ∀ j, gi μ' 38 T j = gi μ 38 T j) (q : CT μ T X) : CT μ' T X := by
  obtain ⟨q1, q2, q3, q4, P, q5, q6, q7⟩ := q
  have m5 := hX.2.1
  refine ⟨(h8 0).trans q1, (h8 1).trans q2, (h8 2).trans q3, fun f hf => ?_, P, q5, (h8 5).trans q6, fun k hk => ?_⟩
  · obtain ⟨a1, a2, a3⟩ := q4 f hf
    refine ⟨(hr 3 f _ (by omega) (by omega)).trans a1, fun j hj => ⟨(hr 25 f _ (by omega) (by omega)).trans (a2 j hj).1, (hr 26 f _ (by omega) (by omega)).trans (a2 j hj).2⟩, ?_⟩
    rw [← a3]
    unfold tbC
    rw [hr 6 f _ (by omega) (by omega), hr 6 f _ (by omega) (by omega), hr 6 f _ (by omega) (by omega), hr 6 f _ (by omega) (by omega)]
  · obtain ⟨p, a1, a2⟩ := q7 k hk
    exact ⟨p, (h38 k).trans a1, cEnc_ag h37 _ _ _ a2⟩
theorem RT_keep {S : Nat} {X : Xt} {ν ν' : Mm} (hX : Xok X) (h5 : ∀ c, (c = 56 ∨ c = 57 ∨ c = 62) → gi ν' c 0 S = gi ν c 0 S) (h58 : ∀ f, f < 5 → gi ν' 58 0 (9 * S + 4 + f) = gi ν 58 0 (9 * S + 4 + f)) (h59 : ∀ c j, (c = 59 ∨ c = 60) → 72 * S + 32 ≤ j → j < 72 * S + 72 → gi ν' c 0 j = gi ν c 0 j) (h63 : ∀ c k, (c = 63 ∨ c = 64) → k < 4 → gi ν' c 0 (4 * S + k) = gi ν c 0 (4 * S + k)) (h65 : ∀ c j, 65 ≤ c → c ≤ 69 → 130 * S ≤ j → j < 130 * S + 130 → gi ν' c 0 j = gi ν c 0 j) (h70 : ∀ c j, (c = 70 ∨ c = 71) → 420 * S ≤ j → j < 420 * S + 420 → gi ν' c 0 j = gi ν c 0 j) (q : RT ν S X) : RT ν' S X := by
  obtain ⟨q1, q2, q3, q4, q5⟩ := q
  have m5 := hX.2.1
  refine ⟨(h5 56 (by omega)).trans q1, (h5 57 (by omega)).trans q2, (h5 62 (by omega)).trans q3, fun f hf => ⟨(h58 f (by omega)).trans (q4 f hf).1, fun j hj => ?_⟩, fun k hk => ?_⟩
  · have l8 := (hX.2.2.1 f hf).1
    exact ⟨(h59 59 _ (by omega) (by omega) (by omega)).trans ((q4 f hf).2 j hj).1, (h59 60 _ (by omega) (by omega) (by omega)).trans ((q4 f hf).2 j hj).2⟩
  · rcases q5 k hk with ⟨b, r1, r2, r3, r4⟩ | ⟨r1, r2⟩
    · have e4 : (4 * S + k) / 4 = S := by omega
      rw [e4] at r3 r4
      refine Or.inl ⟨b, (h63 63 k (by omega) hk).trans r1, (h63 64 k (by omega) hk).trans r2, by rw [e4]; exact r3, ?_⟩
      rw [e4]
      exact rBx_kp (Nat.le_refl _) (Nat.le_refl _) _ _ _ (fun c j g1 g2 g3 g4 => h65 c j g1 g2 (by omega) (by omega)) (fun c j g1 g2 g3 => h70 c j g1 g2 g3) r4
    · exact Or.inr ⟨by rw [h63 63 k (by omega) hk, h63 64 k (by omega) hk]; exact r1, r2⟩
theorem FTC_o {T c i j : Nat} (h2 : c ≠ 2) (h7 : c ≠ 7) (h24 : c ≠ 24) (h37 : c ≠ 37 ∨ i ≠ T) (h38 : c ≠ 38 ∨ i ≠ T) (h8 : c ≠ 8 ∨ i ≠ T) (h5 : c ≠ 5 ∨ i ≠ 7) (h3 : (c ≠ 3 ∧ c ≠ 25 ∧ c ≠ 26 ∧ c ≠ 6) ∨ i < 9 * T ∨ 9 * T + 9 ≤ i) (h30 : c < 30 ∨ 32 < c) : ¬ FRC T c i j := fun h => by
  rcases h with (h | h | h | h | h | h | h | h) | h | h | h
  · exact h2 h.1
  · exact h7 h.1
  · exact h24 h
  · rcases h37 with w | w
    · exact w h.1
    · exact w h.2
  · rcases h38 with w | w
    · exact w h.1
    · exact w h.2
  · rcases h8 with w | w
    · exact w h.1
    · exact w h.2
  · rcases h5 with w | w
    · exact w h.1
    · exact w h.2
  · rcases h3 with w | w | w
    · rcases h.1 with x | x | x | x
      · exact w.1 x
      · exact w.2.1 x
      · exact w.2.2.1 x
      · exact w.2.2.2 x
    · have := h.2.1
      omega
    · have := h.2.2
      omega
  · exact h2 h
  · exact h7 h
  · omega
theorem FTR_o {S c j : Nat} (h12 : c ≠ 12 ∨ j = 0 ∨ j = 1 ∨ j = 3 ∨ (5 ≤ j ∧ j ≤ 9) ∨ j = 18 ∨ (21 ≤ j ∧ j ≤ 30) ∨ (42 ≤ j)) (h49 : c < 49 ∨ 72 < c ∨ ((c = 56 ∨ c = 57 ∨ c = 62) ∧ j ≠ S) ∨ (c = 58 ∧ (j < 9 * S ∨ 9 * S + 9 ≤ j)) ∨ ((c = 59 ∨ c = 60) ∧ (j < 72 * S ∨ 72 * S + 72 ≤ j)) ∨ ((c = 63 ∨ c = 64) ∧ (j < 4 * S ∨ 4 * S + 4 ≤ j)) ∨ (65 ≤ c ∧ c ≤ 69 ∧ (j < 130 * S ∨ 130 * S + 130 ≤ j)) ∨ ((c = 70 ∨ c = 71) ∧ (j < 420 * S ∨ 420 * S + 420 ≤ j))) : ¬ FRR S c 0 j := fun h => by
  rcases h with (h | h | h | h | (h | h | h) | h | h | h) | h | h
  · have := h.1
    have := h.2
    omega
  · omega
  · omega
  · omega
  · omega
  · omega
  · exact h.2.2 rfl
  · omega
  · omega
  · omega
  · omega
  · have := h.1
    have := h.2
    omega
theorem Inv_keep {T S : Nat} {X : Xt} {e : Es} {u s : Bool} {μ ν μ' ν' : Mm} (q1 : IB T S X u s μ ν) (q2 : IE (xn X) e μ ν) (q3 : HI (xn X) μ ν) (fC : fr (FRC (1 - T)) QC μ μ') (fR : fr (FRR (1 - S)) QR ν ν') (h7 : gi μ' 7 0 0 = 0) (h2 : gi ν' 12 0 2 = 0) (hpl : gi μ' 2 0 1 = gi ν' 12 0 17) : Inv u s μ' ν' := by
  obtain ⟨a1, a2, a3, a4, a5, a6, a7, a8, a9, a10, a11, a12, a13, a14, a15, a16⟩ := q1
  have n4 := a3.1
  have nc : ∀ {c i j}, ¬ FRC (1 - T) c i j → gi μ' c i j = gi μ c i j := fun w => fr_n fC w
  have nr : ∀ {c j}, ¬ FRR (1 - S) c 0 j → gi ν' c 0 j = gi ν c 0 j := fun w => fr_n fR w
  have c_ : ∀ c i j, (c = 11 ∨ c = 9 ∨ c = 23 ∨ c = 92 ∨ c = 41 ∨ c = 42 ∨ c = 43 ∨ c = 46 ∨ c = 47 ∨ c = 4 ∨ c = 27 ∨ c = 28 ∨ c = 0 ∨ c = 1) → gi μ' c i j = gi μ c i j := fun c i j h => nc (FTC_o (by omega) (by omega) (by omega) (by omega) (by omega) (by omega) (by omega) (by omega) (by omega))
  have r_ : ∀ c j, 73 ≤ c → gi ν' c 0 j = gi ν c 0 j := fun c j h => nr (FTR_o (by omega) (by omega))
  have r12 : ∀ j, (j = 18 ∨ j = 50 ∨ j = 66) → gi ν' 12 0 j = gi ν 12 0 j := fun j h => nr (FTR_o (by omega) (by omega))
  have c5 : ∀ i j, i < 4 → gi μ' 5 i j = gi μ 5 i j := fun i j h => nc (FTC_o (by omega) (by omega) (by omega) (by omega) (by omega) (by omega) (by omega) (by omega) (by omega))
  have ct := CT_keep a3 (fun j => nc (c := 8) (i := T) (FTC_o (by omega) (by omega) (by omega) (by omega) (by omega) (by omega) (by omega) (by omega) (by omega))) (fun c f j hc hf => nc (FTC_o (by omega) (by omega) (by omega) (by omega) (by omega) (by omega) (by omega) (by omega) (by omega))) (fun j => nc (FTC_o (by omega) (by omega) (by omega) (by omega) (by omega) (by omega) (by omega) (by omega) (by omega))) (fun j => nc (FTC_o (by omega) (by omega) (by omega) (by omega) (by omega) (by omega) (by omega) (by omega) (by omega))) a7
  have rt := RT_keep a3 (fun c hc => nr (j := S) (FTR_o (by omega) (by omega))) (fun f hf => nr (FTR_o (by omega) (by omega))) (fun c j hc g1 g2 => nr (FTR_o (by omega) (by omega))) (fun c k hc hk => nr (FTR_o (by omega) (by omega))) (fun c j g1 g2 g3 g4 => nr (FTR_o (by omega) (by omega))) (fun c j g1 g2 g3 => nr (FTR_o (by omega) (by omega))) a8
  refine ⟨T, S, X, e, ⟨a1, a2, a3, (c_ _ _ _ (by omega)).trans a4, (c_ _ _ _ (by omega)).trans a5, (r12 _ (by omega)).trans a6, ct, rt, SL_ag n4 (fun j => c_ _ _ _ (by omega)) (fun a j _ => c_ _ _ _ (by omega)) (fun j => ⟨r_ _ _ (by omega), r_ _ _ (by omega)⟩) a9, ⟨0, by omega, h7, h2, fun j hj => absurd hj (Nat.not_lt_zero _)⟩, hpl, TO_ag (c_ _ _ _ (by omega)) (r12 _ (by omega)) (fun c j g1 g2 => c_ _ _ _ (by omega)) (fun c j g1 g2 => r_ _ _ (by omega)) a12, fun t ht => ⟨(r_ _ _ (by omega)).trans (a13 t ht).1, (r_ _ _ (by omega)).trans (a13 t ht).2⟩, fun k hk => (fr_m fR (by unfold QR; omega)).trans (a14 k hk), UI_ag (c_ _ _ _ (by omega)) (fun j => ⟨c_ _ _ _ (by omega), c_ _ _ _ (by omega)⟩) a15, SI_ag (c_ _ _ _ (by omega)) ⟨c_ _ _ _ (by omega), c_ _ _ _ (by omega)⟩ (fun j => ⟨c_ _ _ _ (by omega), c_ _ _ _ (by omega)⟩) a16⟩, ⟨⟨fun i hi => ?_, (c_ _ _ _ (by omega)).trans q2.1.2.1, (c_ _ _ _ (by omega)).trans q2.1.2.2⟩, RW_c n4 (fun z _ => r_ _ _ (by omega)) q2.2.1, q2.2.2⟩, ?_⟩
  · rw [← q2.1.1 i hi]
    unfold sqC tgC
    rw [c5 i _ hi, c5 i _ hi, c5 i _ hi, c5 i _ hi]
  · obtain ⟨L, nx, hs, b1, b2, b3, b4, b5, b6⟩ := q3
    exact ⟨L, nx, hs, b1, b2, (c_ _ _ _ (by omega)).trans b3, (c_ _ _ _ (by omega)).trans b4, (r12 _ (by omega)).trans b5, fun i hi => ⟨EA_ag (fun j => c_ _ _ _ (by omega)) (b6 i hi).1, RW_c n4 (fun z _ => r_ _ _ (by omega)) (b6 i hi).2.1, (b6 i hi).2.2⟩⟩
