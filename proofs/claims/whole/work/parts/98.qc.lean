/-! PURE: the letters of the words -/
theorem p_let {F : Nat} {a b c d e f g : Int32} {μ : Mm} {r : Int64} (h : (let ap := fun (x : Int64) (y : Int32) => if y = 0 then x else 27 * x + ((y - 97) + 1).toInt64; ap (ap (ap (ap (ap (ap (ap 0 a) b) c) d) e) f) g) = r) : fX12_letters F a b c d e f g μ = some (r, μ) := by
  have ap : ∀ (x : Int64) (y : Int32) (μ : Mm), fX12_appends F x y μ = some (if y = 0 then x else 27 * x + ((y - 97) + 1).toInt64, μ) := fun x y μ => by
    unfold fX12_appends
    split <;> rfl
  unfold fX12_letters
  rw [ap, bd2_s, ap, bd2_s, ap, bd2_s, ap, bd2_s, ap, bd2_s, ap, bd2_s, ap, bd2_s]
  rw [← h]
def wordsM (μ : Mm) : Mm := sj (sj (sj (sj (sj (sj (sj (sj (sj (sj (sj (sj (sj (sj (sj (sj (sj (sj (sj (sj (sj (sj (μ) 54 0 0 282078293) 54 0 1 91029992) 54 0 2 10819243) 54 0 3 9678763) 54 0 4 316351) 54 0 5 10340587) 54 0 6 377761) 54 0 7 11088623) 54 0 8 40187) 54 0 9 409469) 54 0 10 249) 54 0 11 399641) 54 0 12 107681) 54 0 13 311436) 54 0 14 11438892) 54 0 15 1960084) 54 0 16 108748) 54 0 17 10819228) 54 0 18 191610176) 54 0 19 12387257) 54 0 20 7220170) 54 0 21 43823245
theorem p_init {F : Nat} {μ μ1 μ2 μ3 μ4 μ5 : Mm} (h1 : fX12_plain F 0 μ = some μ1) (h2 : fX12_plain F 1 μ1 = some μ2) (h3 : fX12_fillsUndoing F (wordsM μ2) = some μ3) (h4 : fX12_begins F μ3 = some μ4) (h5 : fX12_keepsRow F μ4 = some μ5) : fX12_init F μ = some μ5 := by
  unfold fX12_init
  rw [h1, bd1_s, h2, bd1_s, p_let (r := 282078293) (by decide), bd2_s, p_let (r := 91029992) (by decide), bd2_s, p_let (r := 10819243) (by decide), bd2_s, p_let (r := 9678763) (by decide), bd2_s, p_let (r := 316351) (by decide), bd2_s, p_let (r := 10340587) (by decide), bd2_s, p_let (r := 377761) (by decide), bd2_s, p_let (r := 11088623) (by decide), bd2_s, p_let (r := 40187) (by decide), bd2_s, p_let (r := 409469) (by decide), bd2_s, p_let (r := 249) (by decide), bd2_s, p_let (r := 399641) (by decide), bd2_s, p_let (r := 107681) (by decide), bd2_s, p_let (r := 311436) (by decide), bd2_s, p_let (r := 11438892) (by decide), bd2_s, p_let (r := 1960084) (by decide), bd2_s, p_let (r := 108748) (by decide), bd2_s, p_let (r := 10819228) (by decide), bd2_s, p_let (r := 191610176) (by decide), bd2_s, p_let (r := 12387257) (by decide), bd2_s, p_let (r := 7220170) (by decide), bd2_s, p_let (r := 43823245) (by decide), bd2_s]
  have h3' : fX12_fillsUndoing F (sj (sj (sj (sj (sj (sj (sj (sj (sj (sj (sj (sj (sj (sj (sj (sj (sj (sj (sj (sj (sj (sj (μ2) 54 0 0 282078293) 54 0 1 91029992) 54 0 2 10819243) 54 0 3 9678763) 54 0 4 316351) 54 0 5 10340587) 54 0 6 377761) 54 0 7 11088623) 54 0 8 40187) 54 0 9 409469) 54 0 10 249) 54 0 11 399641) 54 0 12 107681) 54 0 13 311436) 54 0 14 11438892) 54 0 15 1960084) 54 0 16 108748) 54 0 17 10819228) 54 0 18 191610176) 54 0 19 12387257) 54 0 20 7220170) 54 0 21 43823245) = some μ3 := h3
  rw [h3', bd1_s, h4, bd1_s, h5, bd1_s]
theorem words_fr {μ : Mm} : fr (fun _ _ _ => False) (fun c => c = 54) μ (wordsM μ) := by
  unfold wordsM
  exact fr_tr (fr_tr (fr_tr (fr_tr (fr_tr (fr_tr (fr_tr (fr_tr (fr_tr (fr_tr (fr_tr (fr_tr (fr_tr (fr_tr (fr_tr (fr_tr (fr_tr (fr_tr (fr_tr (fr_tr (fr_tr (fr_tr (fr_rfl) (fr_sj rfl)) (fr_sj rfl)) (fr_sj rfl)) (fr_sj rfl)) (fr_sj rfl)) (fr_sj rfl)) (fr_sj rfl)) (fr_sj rfl)) (fr_sj rfl)) (fr_sj rfl)) (fr_sj rfl)) (fr_sj rfl)) (fr_sj rfl)) (fr_sj rfl)) (fr_sj rfl)) (fr_sj rfl)) (fr_sj rfl)) (fr_sj rfl)) (fr_sj rfl)) (fr_sj rfl)) (fr_sj rfl)) (fr_sj rfl)
theorem words_KY {μ : Mm} : KY (wordsM μ) := fun k hk => by
  rcases (show k = 0 ∨ k = 1 ∨ k = 2 ∨ k = 3 ∨ k = 4 ∨ k = 5 ∨ k = 6 ∨ k = 7 ∨ k = 8 ∨ k = 9 ∨ k = 10 ∨ k = 11 ∨ k = 12 ∨ k = 13 ∨ k = 14 ∨ k = 15 ∨ k = 16 ∨ k = 17 ∨ k = 18 ∨ k = 19 ∨ k = 20 ∨ k = 21 by omega) with rfl | rfl | rfl | rfl | rfl | rfl | rfl | rfl | rfl | rfl | rfl | rfl | rfl | rfl | rfl | rfl | rfl | rfl | rfl | rfl | rfl | rfl <;> rfl

def FI (c _ j : Nat) : Prop := (56 ≤ c ∧ c ≤ 64) ∨ (75 ≤ c ∧ c ≤ 78) ∨ (c = 12 ∧ j = 47)
theorem p_starts {F : Nat} (hF : 1000 ≤ F) : Starts F Inv := by
  obtain ⟨m1, a1, a2, a3, a4⟩ := p_clear (F := F) (T := 0) (μ := iX8_0 (iX7 (fun _ _ _ => 0, fun _ _ _ => 0)))
  obtain ⟨m2, b1, b2, b3, b4⟩ := p_clear (F := F) (T := 1) (μ := iX8_1 m1)
  have i1 : fX8_init F 0 (iX8_0 (iX7 (fun _ _ _ => 0, fun _ _ _ => 0))) = some m1 := by
    unfold fX8_init
    rw [a1, bd1_s]
  have i2 : fX8_init F 1 (iX8_1 m1) = some m2 := by
    unfold fX8_init
    rw [b1, bd1_s]
  obtain ⟨M, hM⟩ : ∃ M, M = iX12 (iX11 m2) := ⟨_, rfl⟩
  have g2 : gi M 11 0 2 = 0 := by rw [hM]; rfl
  have g3 : gi M 11 0 3 = 1 := by rw [hM]; rfl
  have g10 : gi M 11 0 10 = 0 := by rw [hM]; rfl
  have g11 : gi M 11 0 11 = 0 := by rw [hM]; rfl
  have g23 : ∀ j, gi M 23 0 j = 0 := fun j => by rw [hM]; rfl
  have g90 : ∀ j, gi M 90 0 j = 0 := fun j => by rw [hM]; rfl
  have g7 : gi M 7 0 0 = 0 := by
    have e1 : gi M 7 0 0 = gi m2 7 0 0 := by rw [hM]; rfl
    have e2 : gi (iX8_1 m1) 7 0 0 = gi m1 7 0 0 := rfl
    have e3 : gi (iX8_0 (iX7 (fun _ _ _ => 0, fun _ _ _ => 0))) 7 0 0 = 0 := rfl
    rw [e1, fr_n b2 (by unfold FCl; omega), e2, fr_n a2 (by unfold FCl; omega), e3]
  have gP : gi M 2 0 1 = -1 := by rw [hM]; rfl
  have gQ : gi M 12 0 17 = -1 := by rw [hM]; rfl
  have g9 : gi M 9 0 0 = 0 := by rw [hM]; rfl
  have g1 : gi M 1 0 0 = 0 ∧ gi M 1 0 1 = 0 := by rw [hM]; exact ⟨rfl, rfl⟩
  have g0 : gi M 0 0 1 = 0 ∧ gi M 0 0 2 = 0 := by rw [hM]; exact ⟨rfl, rfl⟩
  have gs : ∀ i, i < 4 → sqC M i = ((0, 1), 0, 0) := fun i hi => by
    rw [hM]
    rcases (show i = 0 ∨ i = 1 ∨ i = 2 ∨ i = 3 by omega) with rfl | rfl | rfl | rfl <;> rfl
  have h2 : gi M 12 0 2 = 0 := by rw [hM]; rfl
  have h18 : gi M 12 0 18 = nI 0 := by rw [hM]; rfl
  have h50 : gi M 12 0 50 = 0 := by rw [hM]; rfl
  have h66 : gi M 12 0 66 = 0 := by rw [hM]; rfl
  have g8 : ∀ c j, (c = 8 ∨ c = 37 ∨ c = 38) → gi M c 0 j = gi m1 c 0 j := fun c j hc => by
    have e1 : gi M c 0 j = gi m2 c 0 j := by
      rw [hM]
      rcases hc with rfl | rfl | rfl <;> rfl
    have e2 : gi (iX8_1 m1) c 0 j = gi m1 c 0 j := by
      rcases hc with rfl | rfl | rfl <;> rfl
    rw [e1, fr_n b2 (by unfold FCl; omega), e2]
  obtain ⟨ν1, p1, p2, p3, p4, p5, p6⟩ := p_plain (F := F) (S := 0) (ν := M) hF (by decide)
  obtain ⟨ν2, q1, q2, q3, q4, q5, q6⟩ := p_plain (F := F) (S := 1) (ν := ν1) hF (by decide)
  obtain ⟨ν3, r1, r2, r3⟩ := p_fills (F := F) (ν := wordsM ν2) hF
  have fw2 : fr (fun _ _ _ => False) (fun c => c = 54) ν2 (wordsM ν2) := words_fr
  have w2 : ∀ c i j, gi (wordsM ν2) c i j = gi ν2 c i j := fun c i j => fr_n fw2 (fun h => h)
  have f13 : fr FI (fun c => c = 54) M ν3 := fr_tr (fr_of p2 (fun c i j w => by unfold FI; omega) (fun c w => w.elim)) (fr_tr (fr_of q2 (fun c i j w => by unfold FI; omega) (fun c w => w.elim)) (fr_tr (fr_of fw2 (fun c i j w => w.elim) (fun c w => w)) (fr_of r2 (fun c i j w => by unfold FU at w; unfold FI; omega) (fun c w => w.elim))))
  have n3 : ∀ c, (c = 56 ∨ c = 57 ∨ c = 62) → gi ν3 c 0 0 = gi ν1 c 0 0 := fun c hc => by
    rw [fr_n r2 (by unfold FU; omega), w2, fr_n q2 (by omega)]
  have z56 : gi ν3 56 0 0 = nI 0 := (n3 56 (by omega)).trans p3
  obtain ⟨ν4, s1, s2, s3⟩ := p_begR (F := F) (S := 0) (n := 0) (T := 0) (μ := ν3) (ν := ν3) (qs := fun _ => []) hF (by decide) (by decide) ((fr_n f13 (by unfold FI; omega)).trans h18) z56 (fun i hi => absurd hi (Nat.not_lt_zero _)) (fun i hi => absurd hi (Nat.not_lt_zero _))
  have s5 := p_keeps (F := F) (ν := ν4) hF
  generalize hν5 : bw ν4 75 0 0 14 (gi ν4 76 0) = ν5 at s5
  have f45 : fr (fun c _ _ => c = 75) (fun _ => False) ν4 ν5 := by
    rw [← hν5]
    exact ⟨fun c i j q => by rw [gi_bw, if_neg (by omega)], fun _ _ _ _ => rfl⟩
  have e75 : ∀ z, z < 14 → gi ν5 75 0 z = gi ν4 76 0 z := fun z hz => by rw [← hν5, gi_bw, if_pos (by omega)]
  have f35 : fr (fun c _ j => c = 75 ∨ c = 76 ∨ (c = 12 ∧ j = 47)) (fun _ => False) ν3 ν5 := fr_tr (fr_of s2 (fun c i j w => by omega) (fun c w => w)) (fr_of f45 (fun c i j w => by omega) (fun c w => w))
  have f15 : fr FI (fun c => c = 54) M ν5 := fr_tr f13 (fr_of f35 (fun c i j w => by unfold FI; omega) (fun c w => w.elim))
  have n : ∀ {c i j}, ¬ FI c i j → gi ν5 c i j = gi M c i j := fun w => fr_n f15 w
  have n5 : ∀ c, (c = 56 ∨ c = 57 ∨ c = 62) → gi ν5 c 0 0 = gi ν1 c 0 0 := fun c hc => (fr_n f35 (by omega)).trans (n3 c hc)
  have i3 : fX12_init F M = some ν5 := p_init p1 q1 r1 s1 s5
  have lk : ∀ k, k < 4 → lok [] [dfl k] := fun k hk => by
    refine ⟨fun b hb => absurd hb List.not_mem_nil, ?_, fun c hc => ?_⟩
    · rcases (show k = 0 ∨ k = 1 ∨ k = 2 ∨ k = 3 by omega) with rfl | rfl | rfl | rfl <;> decide
    · rw [List.mem_singleton.mp hc]
      unfold cdok
      rcases (show k = 0 ∨ k = 1 ∨ k = 2 ∨ k = 3 by omega) with rfl | rfl | rfl | rfl <;> decide
  have k8 : ∀ c j, (c = 8 ∨ c = 37 ∨ c = 38) → gi ν5 c 0 j = gi m1 c 0 j := fun c j hc => (n (by unfold FI; omega)).trans (g8 c j hc)
  have z23 : ∀ z, gi ν5 23 0 z = 0 := fun z => (n (by unfold FI; omega)).trans (g23 z)
  have z90 : ∀ z, gi ν5 90 0 z = 0 := fun z => (n (by unfold FI; omega)).trans (g90 z)
  rw [hM] at i3
  refine ⟨_, m1, m2, ν5, i1, i2, i3, (n (by unfold FI; omega)).trans g10, (n (by unfold FI; omega)).trans g11, 0, 0, mkX X0, e0S 0 (fun _ => []), ⟨by decide, by decide, ⟨Nat.zero_le _, Nat.zero_le _, fun f hf => absurd hf (Nat.not_lt_zero _), fun k hk => lk k hk⟩, (n (by unfold FI; omega)).trans g2, (n (by unfold FI; omega)).trans g3, (n (by unfold FI; omega)).trans h18, ?_, ?_, fun z hz => ?_, ⟨0, by omega, (n (by unfold FI; omega)).trans g7, (n (by unfold FI; omega)).trans h2, fun j hj => absurd hj (Nat.not_lt_zero _)⟩, ((n (by unfold FI; omega)).trans gP).trans ((n (by unfold FI; omega)).trans gQ).symm, ⟨0, by omega, (n (by unfold FI; omega)).trans g9, (n (by unfold FI; omega)).trans h66, fun j hj => absurd hj (Nat.not_lt_zero _)⟩, fun t ht => ⟨(fr_n f35 (by omega)).trans (r3 t ht).1, (fr_n f35 (by omega)).trans (r3 t ht).2⟩, fun k hk => (fr_m f35 (fun w => w)).trans ((fr_m r2 (fun w => w)).trans (words_KY k hk)), Or.inl ⟨rfl, (n (by unfold FI; omega)).trans g11⟩, Or.inl ⟨rfl, (n (by unfold FI; omega)).trans g10⟩⟩, ⟨⟨fun i hi => ?_, (n (by unfold FI; omega)).trans g0.1, (n (by unfold FI; omega)).trans g0.2⟩, RW_c (n := 0) (by decide) (fun z hz => e75 z hz) s3, e0S_G (T := 0) (μ := ν5) (fun i hi => absurd hi (Nat.not_lt_zero _))⟩, 0, 0, fun _ => e0S 0 (fun _ => []), by omega, by omega, (n (by unfold FI; omega)).trans g1.1, (n (by unfold FI; omega)).trans g1.2, (n (by unfold FI; omega)).trans h50, fun i hi => absurd hi (Nat.not_lt_zero _)⟩
  · exact ⟨(k8 8 0 (by omega)).trans a3.1, (k8 8 1 (by omega)).trans a3.2.1, (k8 8 2 (by omega)).trans a3.2.2.1, fun f hf => absurd hf (Nat.not_lt_zero _), 8, by omega, (k8 8 5 (by omega)).trans a3.2.2.2.2, fun k hk => ⟨2 * k, (k8 38 k (by omega)).trans (a4 k hk).1, cEnc_ag (fun j => k8 37 j (by omega)) _ _ _ (a4 k hk).2⟩⟩
  · refine ⟨(n5 56 (by omega)).trans p3, (n5 57 (by omega)).trans p4, (n5 62 (by omega)).trans p5, fun f hf => absurd hf (Nat.not_lt_zero _), fun k hk => Or.inr ⟨?_, rfl⟩⟩
    have e : ∀ c, (c = 63 ∨ c = 64) → gi ν5 c 0 (4 * 0 + k) = gi ν1 c 0 (4 * 0 + k) := fun c hc => by
      rw [fr_n f35 (by omega), fr_n r2 (by unfold FU; omega), w2, fr_n q2 (by omega)]
    rw [e 63 (by omega), e 64 (by omega), (p6 k hk).1, (p6 k hk).2]
  · exact ⟨by rw [z23, z90], Or.inl (z23 z), fun w => by rw [z23] at w; exact absurd w (by decide)⟩
  · have n5' : ∀ j, gi ν5 5 i j = gi M 5 i j := fun j => n (by unfold FI; omega)
    have := gs i hi
    unfold sqC tgC at this ⊢
    rw [n5', n5', n5', n5', this]
    show _ = (if i < 0 then (tgO (mkl [] (0, 1)), (0 : Int32), (0 : Int32)) else ((0, 1), 0, 0))
    rw [if_neg (by omega)]
