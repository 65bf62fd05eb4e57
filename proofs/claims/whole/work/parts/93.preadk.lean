theorem km_t : ∀ k, k < 35 → (km k = 20 ↔ k = 0) ∧ (km k = 21 ↔ k = 1) ∧ (km k = 26 ↔ k = 6) ∧ (2 ≤ k ∧ k ≤ 5 → ¬ km k - 22 < 0 ∧ km k ≤ 25 ∧ km k - 22 = nI (k - 2)) ∧ (7 ≤ k → km k - 22 < 0 ∨ ¬ km k ≤ 25) := by decide +kernel
theorem p_bo2R {F N t : Nat} {K : Nat → Tk} {ν : Mm} (g : Gk K N) (hl : LR K N t ν) : ∃ ν' r, fX12_bounded F 0 9999 ν = some (r, ν') ∧ fr FB Q0 ν ν' ∧ RR K N (adv K t 23) ν' ∧ ∀ t2, adv K t 23 = Sum.inr t2 → r = (K t).2.2.1 := by
  have hN := g.1.1
  have tN := hl.2.2.2
  have i2 := p_isR (F := F) (k := 23) g hl (by omega)
  rw [show km 23 = 2 from rfl] at i2
  unfold fX12_bounded
  rw [if_neg (by rw [hl.1]; decide), i2, bd2_s]
  by_cases y : tkd K t = 23
  · obtain ⟨v, hv, ev⟩ := g.2.2 t y
    have e52 := (hl.2.1 t tN).2.2.1 y
    have adv0 : adv K t 23 = if t = 400 then Sum.inl (2, pl K t) else Sum.inr (t + 1) := by
      unfold adv
      rw [if_pos y]
    obtain ⟨ν2, a1, a2, a3⟩ := p_goesR (F := F) g hl (by unfold tkd at y; omega)
    rw [← adv0] at a3
    rw [if_pos y, if_neg n1_0, hl.2.2.1, if_pos ((nn_inb (by omega)).mpr (by omega)), nn_cl (by omega), e52, if_neg (show ¬ (K t).2.2.1 < 0 by rw [ev]; exact nn_neg (by omega)), if_pos (show (K t).2.2.1 ≤ 9999 by rw [ev, show (9999 : Int32) = nI 9999 from rfl, nn_le (by omega) (by omega)]; omega)]
    unfold fX12_bounded_L51
    rw [a1, bd1_s]
    exact ⟨ν2, _, rfl, a2, a3, fun _ _ => rfl⟩
  · obtain ⟨ν1, a1, a2, a3⟩ := p_failR (F := F) (f := 1) g hl (Or.inl rfl)
    have adv0 : adv K t 23 = Sum.inl (1, pl K t) := by
      unfold adv
      rw [if_neg y]
    rw [if_neg y, if_pos rfl]
    unfold fX12_bounded_L15
    rw [a1, bd1_s]
    exact ⟨ν1, 0, rfl, a2, by rw [adv0]; exact a3, fun t2 h2 => by rw [adv0] at h2; cases h2⟩
theorem p_tellG {F T S N t : Nat} {K : Nat → Tk} {D : Int32 × Int32} {X : (Nat × Nat × Int32) × (Nat → List (Int32 × Int32)) × (Nat → List (Int32 × Int32)) × (Nat → List Br × List Int32)} {μ ν : Mm} (hT : T < 2) (hS : S < 2) (g : Gk K N) (h : RD T S K N t D X μ ν) (hk : tkd K t = 6) : ∃ μ' ν', fX2_readTell F (nI 6) μ = some μ' ∧ fX12_tellOne F ν = some ν' ∧ TO2 T S K N t μ ν μ' ν' := by
  obtain ⟨⟨n, m, sd⟩, qs, fs, lb⟩ := X
  obtain ⟨nms, P, b, C, ⟨⟨hl, hlr, h12, h19⟩, n4, m5, e0, e1, e2, x56, x57, x62⟩, rq, rf, rl, ⟨⟨d1, d2, d3, d4⟩, nl, nc, nr⟩, c1, c2, c3, c4, c5, c6, c7, c8⟩ := h
  have rq : RDq T S n qs D μ ν := rq
  have rf : RDf T S m fs D μ ν := rf
  have rl : RDl T S P b C lb μ ν := rl
  have tN := hlr.2.2.2
  have hN := g.1.1
  have k34 := g.2.1 t
  have hk' : (K t).1 = 6 := hk
  -- the class
  obtain ⟨μ1, a1, a2, a3⟩ := p_takeC (F := F) (k := 6) (P := P) g hl (by omega) (by omega) c1
  generalize hμ2 : si μ1 8 T 2 (gi μ1 7 0 4) = μ2
  have f2 : fr (fun c i j => c = 8 ∧ i = T ∧ j = 2) (fun _ => False) μ1 μ2 := by
    rw [← hμ2]
    exact fr_si ⟨rfl, rfl, rfl⟩
  have f12 : fr (fun c i j => FA c i j ∨ (c = 8 ∧ i = T ∧ j = 2)) Q7 μ μ2 := fr_tr (fr_of a2 (fun c i j q => Or.inl q) (fun c q => q)) (fr_of f2 (fun c i j q => Or.inr q) (fun c q => q.elim))
  have toC : ∀ {μa : Mm}, fr (fun c i j => FA c i j ∨ (c = 8 ∧ i = T ∧ j = 2)) Q7 μ μa → fr (FTC T) QRow μ μa := fun w => fr_of w (fun c i j q => by
    rcases q with q | q
    · exact FA_FTC c i j q
    · exact Or.inr (Or.inr (Or.inr (Or.inr (Or.inr (Or.inl ⟨q.1, q.2.1⟩)))))) (fun c q => Or.inl q)
  have eC : fX2_readTell F (nI 6) μ = (bd1 (bd1 (fX2_take F 6 μ) fun μ2 => bd1 (fX2_take F 23 (si μ2 8 (tx (gi μ2 2 0 3)) 2 (gi μ2 7 0 4))) fun μ7 => bd1 (fX2_take F 24 μ7) fun μ10 => some (μ10)) fun μ9 => some (μ9)) := by
    unfold fX2_readTell fX2_readTell_L57 fX2_readSeed
    rw [if_neg (show ¬ nI 6 = 0 by decide), if_neg (show ¬ nI 6 = 1 by decide), if_neg (show ¬ nI 6 < 2 by decide), if_pos (show 5 < nI 6 by decide), if_pos (show nI 6 = 6 from rfl)]
  have e3 : gi μ1 2 0 3 = nI T := by
    cases hx : adv K t 6 with
    | inl e => rw [hx] at a3; exact a3.2.2.1
    | inr t1 => rw [hx] at a3; exact a3.2.1
  rw [eC, show (6 : Int32) = nI 6 from rfl, a1, bd1_s, e3, tx_nI hT, hμ2]
  -- the reference
  have eR : fX12_tellOne F ν = (bd1 (fX12_goesOn F ν) fun μ35 => bd2 (fX12_bounded F 0 9999 μ35) fun r40 μ39 => if inb (gi μ35 12 0 19) 2 = true then bd1 (fX12_must F 4 (si μ39 62 0 (gi μ35 12 0 19).toNatClampNeg r40)) fun μ44 => some (μ44) else none) := by
    unfold fX12_tellOne
    rw [hlr.2.2.1, if_pos ((nn_inb (by omega)).mpr (by omega)), nn_cl (by omega), (hlr.2.1 t tN).1, hk', if_neg (show ¬ km 6 = 20 by decide), if_neg (show ¬ km 6 = 21 by decide), if_pos (show km 6 = 26 by decide)]
  obtain ⟨ν1, b1, b2, b3⟩ := p_goesR (F := F) g hlr (by omega)
  have adv0 : adv K t 6 = if t = 400 then Sum.inl (2, pl K t) else Sum.inr (t + 1) := by
    unfold adv
    rw [if_pos hk]
  rw [← adv0] at b3
  have z19 : gi ν1 12 0 19 = nI S := (fr_n b2 (by unfold FB; omega)).trans h19
  have hiS : inb (nI S) 2 = true := (nn_inb (by omega)).mpr (by omega)
  rw [eR, b1, bd1_s, z19]
  have toR : ∀ {νa : Mm}, fr (fun c i j => FB c i j ∨ (c = 62 ∧ j = S)) Q0 ν νa → fr (FTR S) Q55 ν νa := fun w => fr_of w (fun c i j q => by
    rcases q with q | q
    · exact FB_FTR c i j q
    · exact Or.inr (Or.inr (Or.inr (Or.inr (Or.inr (Or.inl ⟨Or.inr (Or.inr q.1), q.2⟩)))))) (fun c q => q.elim)
  have fB1 : fr (fun c i j => FB c i j ∨ (c = 62 ∧ j = S)) Q0 ν ν1 := fr_of b2 (fun c i j q => Or.inl q) (fun c q => q)
  have s62 : ∀ (νa : Mm) (x : Int32), fr (fun c i j => FB c i j ∨ (c = 62 ∧ j = S)) Q0 νa (si νa 62 0 S x) := fun νa x => fr_si (Or.inr ⟨rfl, rfl⟩)
  cases h1 : adv K t 6 with
  | inl e =>
    rw [h1] at a3 b3
    have dC : DdC T e μ2 := DdC_n f2 (fun j hj => by omega) ⟨P, by omega, (fr_n f12 (by unfold FA; omega)).trans c1⟩ a3
    have bb : fX12_bounded F 0 9999 ν1 = some (0, ν1) := by
      unfold fX12_bounded fX12_bounded_L15
      rw [if_pos (deadR b3).2.2, p_failRd b3, bd1_s]
    have dR : DdR e (si ν1 62 0 S 0) := DdR_fr (P := fun c i j => c = 62) (fr_si rfl) (fun j hj => by omega) b3
    rw [p_takeCd dC, bd1_s, p_takeCd dC, bd1_s, bd1_s, bb, bd2_s, if_pos hiS, nn_cl (by omega), p_mustRd dR, bd1_s]
    exact ⟨μ2, _, rfl, rfl, toC f12, toR (fr_tr fB1 (s62 _ _)), Or.inl ⟨e, dC, dR⟩⟩
  | inr t1 =>
  rw [h1] at a3 b3
  obtain ⟨rfl, _, _⟩ := adv_r h1
  have l2 : LC T K N (t + 1) μ2 := LC_gq f2 (fr_m f2 (fun w => w)) (fun w => w) ⟨by omega, by omega⟩ (fun j hj => by omega) (fun c j h1 h2 => by omega) a3
  have p2 : gi μ2 8 T 5 = nI P := (fr_n f12 (by unfold FA; omega)).trans c1
  obtain ⟨μ3, u1, u2, u3⟩ := p_takeC (F := F) (k := 23) (P := P) g l2 (by omega) (by omega) p2
  obtain ⟨ν2, x, v1, v2, v3, v4⟩ := p_bo2R (F := F) g b3
  have f13 : fr (fun c i j => FA c i j ∨ (c = 8 ∧ i = T ∧ j = 2)) Q7 μ μ3 := fr_tr f12 (fr_of u2 (fun c i j q => Or.inl q) (fun c q => q))
  have g3 : fr (fun c i j => FB c i j ∨ (c = 62 ∧ j = S)) Q0 ν (si ν2 62 0 S x) := fr_tr fB1 (fr_tr (fr_of v2 (fun c i j q => Or.inl q) (fun c q => q)) (s62 _ _))
  rw [show (23 : Int32) = nI 23 from rfl, u1, bd1_s, v1, bd2_s, if_pos hiS, nn_cl (by omega)]
  have f62 : fr (fun c i j => c = 62) Q0 ν2 (si ν2 62 0 S x) := fr_si rfl
  cases h2 : adv K (t + 1) 23 with
  | inl e =>
    rw [h2] at u3 v3
    have dR : DdR e (si ν2 62 0 S x) := DdR_fr f62 (fun j hj => by omega) v3
    rw [p_takeCd u3, bd1_s, bd1_s, p_mustRd dR, bd1_s]
    exact ⟨μ3, _, rfl, rfl, toC f13, toR g3, Or.inl ⟨e, u3, dR⟩⟩
  | inr t2 =>
  rw [h2] at u3 v3
  obtain ⟨rfl, _, k23⟩ := adv_r h2
  have ex := v4 _ h2
  have l3 : LR K N (t + 1 + 1) (si ν2 62 0 S x) := LR_fr f62 ⟨by omega, by omega⟩ (fun c j h1 h2 => by omega) v3
  obtain ⟨μ4, w1, w2, w3⟩ := p_takeC (F := F) (k := 24) (P := P) g u3 (by omega) (by omega) ((fr_n u2 (by unfold FA; omega)).trans p2)
  obtain ⟨ν4, y1, y2, y3⟩ := p_mustR (F := F) (k := 24) g l3 (by omega)
  have f14 : fr (fun c i j => FA c i j ∨ (c = 8 ∧ i = T ∧ j = 2)) Q7 μ μ4 := fr_tr f13 (fr_of w2 (fun c i j q => Or.inl q) (fun c q => q))
  have g4 : fr (fun c i j => FB c i j ∨ (c = 62 ∧ j = S)) Q0 ν ν4 := fr_tr g3 (fr_of y2 (fun c i j q => Or.inl q) (fun c q => q))
  rw [show (24 : Int32) = nI 24 from rfl, w1, bd1_s, bd1_s, show (4 : Int32) = km 24 from rfl, y1, bd1_s]
  cases h3 : adv K (t + 1 + 1) 24 with
  | inl e =>
    rw [h3] at w3 y3
    exact ⟨μ4, ν4, rfl, rfl, toC f14, toR g4, Or.inl ⟨e, w3, y3⟩⟩
  | inr t3 =>
  rw [h3] at w3 y3
  obtain ⟨rfl, _, _⟩ := adv_r h3
  have nC : ∀ {c i j}, ¬ (FA c i j ∨ (c = 8 ∧ i = T ∧ j = 2)) → gi μ4 c i j = gi μ c i j := fun w => fr_n f14 w
  have nR : ∀ {c i j}, ¬ (FB c i j ∨ (c = 62 ∧ j = S)) → gi ν4 c i j = gi ν c i j := fun w => fr_n g4 w
  have rq' := RDq_fr (D' := D) f14 g4 (fun c i j hc g1 g2 => by unfold FA; omega) (fun j g1 g2 => by unfold FB; omega) id rq
  have rf' := RDf_fr (D' := D) f14 g4 (fun c i j hc g1 g2 => by unfold FA; omega) (fun c j hc => by unfold FB; omega) id rf
  have rl' := RDl_fr (μ' := μ4) (fun k => nC (by unfold FA; omega)) (fun j hj => nC (by unfold FA; omega)) g4 (fun c j g1 g2 w => by
    rcases w with w | w
    · have := w.1
      omega
    · omega) rl
  refine ⟨μ4, ν4, rfl, rfl, toC f14, toR g4, Or.inr ⟨t + 1 + 1 + 1, D, ((n, m, x), qs, fs, lb), by omega, nms, P, b, C, ⟨⟨w3, y3, (nR (by unfold FB; omega)).trans h12, (nR (by unfold FB; omega)).trans h19⟩, n4, m5, (nC (by unfold FA; omega)).trans e0, (nC (by unfold FA; omega)).trans e1, ?_, (nR (by unfold FB; omega)).trans x56, (nR (by unfold FB; omega)).trans x57, ?_⟩, rq', rf', rl', ⟨⟨(nC (by unfold FA; omega)).trans d1, (nC (by unfold FA; omega)).trans d2, DoR_fr g4 ⟨by unfold FB; omega, by unfold FB; omega⟩ d3, d4⟩, nl, ⟨(nC (by unfold FA; omega)).trans nc.1, fun z hz => (fr_m f14 (by unfold Q7; omega)).trans (nc.2 z hz)⟩, (nR (by unfold FB; omega)).trans nr.1, fun z hz => (fr_m g4 (fun w => w)).trans (nr.2 z hz)⟩, (nC (by unfold FA; omega)).trans c1, by omega, (nR (by unfold FB; omega)).trans c3, c4, by omega, (nR (by unfold FB; omega)).trans c6, c7, by omega⟩⟩
  · show gi μ4 8 T 2 = x
    rw [fr_n w2 (by unfold FA; omega), fr_n u2 (by unfold FA; omega), ← hμ2, gi_eq, ex]
    exact a3.2.2.2.1.2.2.2.1 k23
  · show gi ν4 62 0 S = x
    rw [fr_n y2 (by unfold FB; omega), gi_eq]
/-- a LAW -/
theorem p_tellL {F T S N t k : Nat} {K : Nat → Tk} {D : Int32 × Int32} {X : (Nat × Nat × Int32) × (Nat → List (Int32 × Int32)) × (Nat → List (Int32 × Int32)) × (Nat → List Br × List Int32)} {μ ν : Mm} (hF : 1000 ≤ F) (hT : T < 2) (hS : S < 2) (g : Gk K N) (h : RD T S K N t D X μ ν) (hk : tkd K t = k) (hk2 : 2 ≤ k ∧ k ≤ 5) : ∃ μ' ν', fX2_readTell F (nI k) μ = some μ' ∧ fX12_tellOne F ν = some ν' ∧ TO2 T S K N t μ ν μ' ν' := by
  obtain ⟨⟨n, m, sd⟩, qs, fs, lb⟩ := X
  obtain ⟨nms, P, b, C, ⟨⟨hl, hlr, h12, h19⟩, n4, m5', e0, e1, e2, x56, x57, x62⟩, rq, rf, rl, ⟨⟨d1, d2, d3, d4⟩, nl, nc, nr⟩, c1, c2, c3, c4, c5, c6, c7, c8⟩ := h
  have rq : RDq T S n qs D μ ν := rq
  have rf : RDf T S m fs D μ ν := rf
  have rl : RDl T S P b C lb μ ν := rl
  have tN := hlr.2.2.2
  have hN := g.1.1
  have k34 := g.2.1 t
  have hk' : (K t).1 = k := hk
  obtain ⟨q20, q21, q26, qL, _⟩ := km_t k (by omega)
  obtain ⟨qL1, qL2, qL3⟩ := qL hk2
  -- the class
  obtain ⟨μ1, a1, a2, a3⟩ := p_takeC (F := F) (k := k) (P := P) g hl (by omega) (by omega) c1
  have eC : fX2_readTell F (nI k) μ = (bd1 (bd1 (fX2_take F (nI k) μ) fun μ2 => bd1 (fX2_take F 25 μ2) fun μ5 => bd1 (fX8_beginLaw F (tx (gi μ5 2 0 3)) (nI k - 2) μ5) fun μ9 => fX2_readLaw_L23 F F 0 μ9) fun μ13 => some (μ13)) := by
    unfold fX2_readTell fX2_readLaw
    rw [if_neg (show ¬ nI k = 0 by rw [show (0 : Int32) = nI 0 from rfl, nn_inj (by omega) (by omega)]; omega), if_neg (show ¬ nI k = 1 by rw [show (1 : Int32) = nI 1 from rfl, nn_inj (by omega) (by omega)]; omega), if_neg (show ¬ nI k < 2 by rw [show (2 : Int32) = nI 2 from rfl, nn_lt (by omega) (by omega)]; omega), if_neg (show ¬ 5 < nI k by rw [show (5 : Int32) = nI 5 from rfl, nn_lt (by omega) (by omega)]; omega)]
  have beg : ∀ (μa : Mm), gi μa 2 0 3 = nI T → fX8_beginLaw F (tx (gi μa 2 0 3)) (nI k - 2) μa = some (si μa 38 T (k - 2) (gi μa 8 T 5)) := fun μa h3 => by
    unfold fX8_beginLaw
    rw [h3, tx_nI hT, show (2 : Int32) = nI 2 from rfl, nn_sub hk2.1, if_neg (nn_neg (by omega)), if_neg (show ¬ 4 ≤ nI (k - 2) by rw [show (4 : Int32) = nI 4 from rfl, nn_le (by omega) (by omega)]; omega), if_pos ((nn_inb (by omega)).mpr (by omega)), nn_cl (by omega)]
  have s38 : ∀ (μa : Mm) (x : Int32), fr (fun c i j => c = 38 ∧ i = T ∧ j = k - 2) (fun _ => False) μa (si μa 38 T (k - 2) x) := fun μa x => fr_si ⟨rfl, rfl, rfl⟩
  have toC : ∀ {μa : Mm}, fr (fun c i j => FA c i j ∨ (c = 38 ∧ i = T ∧ j = k - 2) ∨ FE T c i j) Q7 μ μa → fr (FTC T) QRow μ μa := fun w => fr_of w (fun c i j q => by
    rcases q with q | q | q
    · exact FA_FTC c i j q
    · exact Or.inr (Or.inr (Or.inr (Or.inr (Or.inl ⟨q.1, q.2.1⟩))))
    · rcases q with q | q | q | q | q
      · exact Or.inl ⟨q.1, by have := q.2; omega⟩
      · exact Or.inr (Or.inl q)
      · exact Or.inr (Or.inr (Or.inl q))
      · exact Or.inr (Or.inr (Or.inr (Or.inl q)))
      · exact Or.inr (Or.inr (Or.inr (Or.inr (Or.inr (Or.inl ⟨q.1, q.2.1⟩)))))) (fun c q => Or.inl q)
  have gA : ∀ {μa μb : Mm}, fr FA Q7 μa μb → fr (fun c i j => FA c i j ∨ (c = 38 ∧ i = T ∧ j = k - 2) ∨ FE T c i j) Q7 μa μb := fun w => fr_of w (fun c i j q => Or.inl q) (fun c q => q)
  have gB : ∀ {μa μb : Mm}, fr (fun c i j => c = 38 ∧ i = T ∧ j = k - 2) (fun _ => False) μa μb → fr (fun c i j => FA c i j ∨ (c = 38 ∧ i = T ∧ j = k - 2) ∨ FE T c i j) Q7 μa μb := fun w => fr_of w (fun c i j q => Or.inr (Or.inl q)) (fun c q => q.elim)
  have gE : ∀ {μa μb : Mm}, fr (FE T) Q7 μa μb → fr (fun c i j => FA c i j ∨ (c = 38 ∧ i = T ∧ j = k - 2) ∨ FE T c i j) Q7 μa μb := fun w => fr_of w (fun c i j q => Or.inr (Or.inr q)) (fun c q => q)
  obtain ⟨f0, hf0⟩ : ∃ x, F = x + 1 := ⟨F - 1, by omega⟩
  -- dead behind the word or the sign
  have deadC : ∀ {e : Int32 × Int32} {μa : Mm}, fr (fun c i j => FA c i j ∨ (c = 38 ∧ i = T ∧ j = k - 2) ∨ FE T c i j) Q7 μ μa → DdC T e μa → ∃ μ', (bd1 (fX8_beginLaw F (tx (gi μa 2 0 3)) (nI k - 2) μa) fun μ9 => fX2_readLaw_L23 F F 0 μ9) = some μ' ∧ fr (FTC T) QRow μ μ' ∧ DdC T e μ' := fun {e μa} hf hd => by
    obtain ⟨PP, hP, h5⟩ := hd.2.2.2.2
    have d2 : DdC T e (si μa 38 T (k - 2) (gi μa 8 T 5)) := DdC_n (s38 _ _) (fun j hj => by omega) ⟨PP, hP, (gi_ne (by omega)).trans h5⟩ hd
    obtain ⟨μ', q1, q2, q3⟩ := dg_L23 (F := F) (m := f0) (v2 := 0) hF hT e _ d2
    rw [beg μa hd.2.2.1, bd1_s, show fX2_readLaw_L23 F F = fX2_readLaw_L23 F (f0 + 1) by rw [← hf0]]
    exact ⟨μ', q1, toC (fr_tr hf (fr_tr (gB (s38 _ _)) (gE q2))), q3⟩
  -- the reference
  have eR : fX12_tellOne F ν = (bd1 (fX12_goesOn F ν) fun μ53 => bd1 (fX12_tellLaw F (nI (k - 2)) μ53) fun μ56 => some (μ56)) := by
    unfold fX12_tellOne fX12_tellOne_L245
    rw [hlr.2.2.1, if_pos ((nn_inb (by omega)).mpr (by omega)), nn_cl (by omega), (hlr.2.1 t tN).1, hk', if_neg (fun w => by have := q20.mp w; omega), if_neg (fun w => by have := q21.mp w; omega), if_neg (fun w => by have := q26.mp w; omega), if_neg qL1, if_pos qL2, qL3, hlr.1, if_pos (by decide)]
  obtain ⟨ν1, b1, b2, b3⟩ := p_goesR (F := F) g hlr (by omega)
  have adv0 : adv K t k = if t = 400 then Sum.inl (2, pl K t) else Sum.inr (t + 1) := by
    unfold adv
    rw [if_pos hk]
  rw [← adv0] at b3
  have z31 : gi ν1 12 0 31 = nI b := (fr_n b2 (by unfold FB; omega)).trans c3
  -- what is kept
  have cs : ∀ {c i j : Nat}, 63 ≤ c → c ≤ 72 → i ≠ 0 → FTR S c i j := fun h1 h2 h3 => Or.inr (Or.inr (Or.inr (Or.inr (Or.inl (Or.inr (Or.inr ⟨h1, h2, h3⟩))))))
  have toR : ∀ {νa : Mm}, KpL b (130 * S + 130) C (420 * S + 420) (4 * S + (k - 2)) ν νa → fr (FTR S) Q55 ν νa := fun {νa} w => ⟨fun c i j q => by
    by_cases z : FLw c i j
    · rcases z with (z | z | z | z) | z | z
      · exact absurd (Or.inl ⟨z.1, by have := z.2; omega⟩) q
      · by_cases i0 : i = 0
        · rw [i0]
          by_cases y : 420 * S ≤ j ∧ j < 420 * S + 420
          · exact absurd (Or.inr (Or.inr (Or.inr (Or.inl ⟨Or.inl z, y.1, y.2⟩)))) q
          · exact w.2.1 c j (Or.inl z) (by omega)
        · exact absurd (cs (by omega) (by omega) i0) q
      · by_cases i0 : i = 0
        · rw [i0]
          by_cases y : 420 * S ≤ j ∧ j < 420 * S + 420
          · exact absurd (Or.inr (Or.inr (Or.inr (Or.inl ⟨Or.inr z, y.1, y.2⟩)))) q
          · exact w.2.1 c j (Or.inr z) (by omega)
        · exact absurd (cs (by omega) (by omega) i0) q
      · exact absurd (Or.inr (Or.inl z)) q
      · by_cases i0 : i = 0
        · rw [i0]
          by_cases c65 : 65 ≤ c
          · by_cases y : 130 * S ≤ j ∧ j < 130 * S + 130
            · exact absurd (Or.inr (Or.inr (Or.inl ⟨c65, z.2, y.1, y.2⟩))) q
            · exact w.2.2.1 c j c65 z.2 (by omega)
          · by_cases y : 4 * S ≤ j ∧ j < 4 * S + 4
            · exact absurd (Or.inr (Or.inr (Or.inr (Or.inr (Or.inl (Or.inl ⟨by omega, y.1, y.2⟩)))))) q
            · exact w.2.2.2 c j (by omega) (by omega)
        · exact absurd (cs (by omega) (by omega) i0) q
      · exact absurd (Or.inl ⟨z.1, by have := z.2; omega⟩) q
    · exact w.1.1 c i j z, fun c i j q => w.1.2 c i j (fun z => z)⟩
  have hL12 : fX12_tellLaw_L12 F F = fX12_tellLaw_L12 F (f0 + 1) := by rw [← hf0]
  have deadR' : ∀ {e : Int32 × Int32} {νa : Mm}, KpL b (130 * S + 130) C (420 * S + 420) (4 * S + (k - 2)) ν νa → DdR e νa → gi νa 12 0 31 = nI b → ∃ ν', fX12_tellLaw_L12 F F (nI (k - 2)) (gi νa 12 0 31) 0 νa = some ν' ∧ fr (FTR S) Q55 ν ν' ∧ DdR e ν' := fun {e νa} hf hd h31 => by
    obtain ⟨ν', b', q1, q2, q3, _⟩ := dr_L12 (F := F) (B0 := b) (B1 := 130 * S + 130) (C := C) (H := 420 * S + 420) (k4 := 4 * S + (k - 2)) (m := b) (n := f0) (v1 := nI (k - 2)) (v2 := gi νa 12 0 31) (v3 := 0) (by omega) (by omega) e νa b hd (Nat.le_refl _) (Nat.le_refl _) h31
    rw [hL12]
    exact ⟨ν', q1, toR (KpL_tr hf q2), q3⟩
  rw [eC, a1, bd1_s, eR, b1, bd1_s]
  unfold fX12_tellLaw
  cases h1 : adv K t k with
  | inl e =>
    rw [h1] at a3 b3
    obtain ⟨μ', p1, p2, p3⟩ := deadC (gA a2) a3
    obtain ⟨ν', q1, q2, q3⟩ := deadR' (KpL_B b2) b3 z31
    rw [p_takeCd a3, bd1_s, p1, bd1_s, p_mustRd b3, bd1_s, q1, bd1_s]
    exact ⟨μ', ν', rfl, rfl, p2, q2, Or.inl ⟨e, p3, q3⟩⟩
  | inr t1 =>
  rw [h1] at a3 b3
  obtain ⟨rfl, _, _⟩ := adv_r h1
  have y5 : gi μ1 8 T 5 = nI P := (fr_n a2 (by unfold FA; omega)).trans c1
  obtain ⟨μ2, u1, u2, u3⟩ := p_takeC (F := F) (k := 25) (P := P) g a3 (by omega) (by omega) y5
  obtain ⟨ν2, v1, v2, v3⟩ := p_mustR (F := F) (k := 25) g b3 (by omega)
  have f2 := fr_tr (gA a2) (gA u2)
  have g2 : KpL b (130 * S + 130) C (420 * S + 420) (4 * S + (k - 2)) ν ν2 := KpL_tr (KpL_B b2) (KpL_B v2)
  have w31 : gi ν2 12 0 31 = nI b := (fr_n v2 (by unfold FB; omega)).trans z31
  rw [show (25 : Int32) = nI 25 from rfl, u1, bd1_s, show (5 : Int32) = km 25 from rfl, v1, bd1_s]
  cases h2 : adv K (t + 1) 25 with
  | inl e =>
    rw [h2] at u3 v3
    obtain ⟨μ', p1, p2, p3⟩ := deadC f2 u3
    obtain ⟨ν', q1, q2, q3⟩ := deadR' g2 v3 w31
    rw [p1, bd1_s, q1, bd1_s]
    exact ⟨μ', ν', rfl, rfl, p2, q2, Or.inl ⟨e, p3, q3⟩⟩
  | inr t2 =>
  rw [h2] at u3 v3
  obtain ⟨rfl, _, _⟩ := adv_r h2
  rw [beg μ2 u3.2.1, bd1_s]
  have y6 : gi μ2 8 T 5 = nI P := (fr_n u2 (by unfold FA; omega)).trans y5
  generalize hμ3 : si μ2 38 T (k - 2) (gi μ2 8 T 5) = μ3
  have f3 : fr (fun c i j => c = 38 ∧ i = T ∧ j = k - 2) (fun _ => False) μ2 μ3 := by
    rw [← hμ3]
    exact s38 _ _
  have l3 : LC T K N (t + 1 + 1) μ3 := LC_gq f3 (fr_m f3 (fun w => w)) (fun w => w) ⟨by omega, by omega⟩ (fun j hj => by omega) (fun c j h1 h2 => by omega) u3
  obtain ⟨μ4, s1, s2, s3⟩ := p_lwC (F := F) (T := T) hF hT g 4 (t + 1 + 1) 0 F P μ3 rfl (by omega) l3 ((fr_n f3 (by omega)).trans y6) (by omega)
  have nB : ∀ j, j ≠ 11 → j ≠ 13 → j ≠ 14 → gi ν2 12 0 j = gi ν 12 0 j := fun j h1 h2 h3 => (fr_n v2 (by unfold FB; omega)).trans (fr_n b2 (by unfold FB; omega))
  obtain ⟨ν4, r1, r2, r3⟩ := p_lwR (F := F) (S := S) (k := k - 2) (B1 := 130 * S + 130) (H := 420 * S + 420) (k4 := 4 * S + (k - 2)) (Z := 520 * S) (v2 := nI b) hF (by omega) (by omega) (by omega) rfl (by omega) g 4 (t + 1 + 1) 0 F b C ν2 rfl (by omega) v3 ((nB 12 (by omega) (by omega) (by omega)).trans h12) ((nB 19 (by omega) (by omega) (by omega)).trans h19) w31 (by omega) ((nB 37 (by omega) (by omega) (by omega)).trans c6) (by omega)
  have f4 : fr (fun c i j => FA c i j ∨ (c = 38 ∧ i = T ∧ j = k - 2) ∨ FE T c i j) Q7 μ μ4 := fr_tr f2 (fr_tr (gB f3) (gE s2))
  have g4 : KpL b (130 * S + 130) C (420 * S + 420) (4 * S + (k - 2)) ν ν4 := KpL_tr g2 r2
  rw [show (0 : Int32) = nI 0 from rfl, s1, bd1_s, w31, r1, bd1_s]
  cases h3 : lwg K 4 (t + 1 + 1) with
  | inl e =>
    rw [h3] at s3 r3
    exact ⟨μ4, ν4, rfl, rfl, toC f4, toR g4, Or.inl ⟨e, s3, r3⟩⟩
  | inr r =>
  rw [h3] at s3 r3
  have t4 : t + 1 + 1 ≤ 400 := Nat.le_trans u3.2.2.2.2 hN
  obtain ⟨lo1, lo2⟩ := lwg_ok g.2.2 4 (t + 1 + 1) r h3 t4
  obtain ⟨k1, k2, P', k3, k4, k5⟩ := s3
  obtain ⟨m1, m2, m3, m4, ⟨C', m5, m6, m7, m8⟩, m9, m10⟩ := r3
  have PP : P < P' := cEnc_lt _ _ _ k5
  have nC : ∀ {c i j}, ¬ (FA c i j ∨ (c = 38 ∧ i = T ∧ j = k - 2) ∨ FE T c i j) → gi μ4 c i j = gi μ c i j := fun w => fr_n f4 w
  have nR : ∀ {c i j}, ¬ FLw c i j → gi ν4 c i j = gi ν c i j := fun w => fr_n g4.1 w
  have rq' := RDq_fr (D' := D) f4 g4.1 (fun c i j hc g1 g2 => by unfold FA FE; omega) (fun j g1 g2 => by unfold FLw FRe; omega) id rq
  have rf' := RDf_fr (D' := D) f4 g4.1 (fun c i j hc g1 g2 => by unfold FA FE; omega) (fun c j hc => by rcases hc with ⟨rfl, g1, g2⟩ | ⟨rfl | rfl, g1, g2⟩ <;> (unfold FLw FRe; omega)) id rf
  have cell : ∀ j, j < P → gi μ4 37 T j = gi μ 37 T j := fun j hj => (k2 j hj).trans ((fr_n f3 (by omega)).trans ((fr_n u2 (by unfold FA; omega)).trans (fr_n a2 (by unfold FA; omega))))
  refine ⟨μ4, ν4, rfl, rfl, toC f4, toR g4, Or.inr ⟨r.1, D, ((n, m, sd), qs, fs, fun k' => if k' = k - 2 then (r.2.1, r.2.2) else lb k'), by omega, nms, P', b + r.2.1.length + 1, C', ⟨⟨k1, m1, m2, (nR (by unfold FLw FRe; omega)).trans h19⟩, n4, m5', (nC (by unfold FA FE; omega)).trans e0, (nC (by unfold FA FE; omega)).trans e1, (nC (by unfold FA FE; omega)).trans e2, (nR (by unfold FLw FRe; omega)).trans x56, (nR (by unfold FLw FRe; omega)).trans x57, (nR (by unfold FLw FRe; omega)).trans x62⟩, rq', rf', fun k' hk' => ?_, ⟨⟨(nC (by unfold FA FE; omega)).trans d1, (nC (by unfold FA FE; omega)).trans d2, DoR_fr g4.1 ⟨by unfold FLw FRe; omega, by unfold FLw FRe; omega⟩ d3, d4⟩, nl, ⟨(nC (by unfold FA FE; omega)).trans nc.1, fun z hz => (fr_m f4 (by unfold Q7; omega)).trans (nc.2 z hz)⟩, (nR (by unfold FLw FRe; omega)).trans nr.1, fun z hz => (fr_m g4.1 (fun w => w)).trans (nr.2 z hz)⟩, k3, by omega, m3, by omega, by omega, m5, by omega, by omega⟩⟩
  show lok (if k' = k - 2 then (r.2.1, r.2.2) else lb k').1 (if k' = k - 2 then (r.2.1, r.2.2) else lb k').2 ∧ (∃ p, gi μ4 38 T k' = nI p ∧ cEnc μ4 T P' (if k' = k - 2 then (r.2.1, r.2.2) else lb k').1 (if k' = k - 2 then (r.2.1, r.2.2) else lb k').2 p) ∧ ((∃ b0, gi ν4 63 0 (4 * S + k') = nI b0 ∧ gi ν4 64 0 (4 * S + k') = nI (b0 + (if k' = k - 2 then (r.2.1, r.2.2) else lb k').1.length + 1) ∧ 130 * S ≤ b0 ∧ b0 + (if k' = k - 2 then (r.2.1, r.2.2) else lb k').1.length + 1 ≤ b + r.2.1.length + 1 ∧ rBx ν4 (420 * S) C' (if k' = k - 2 then (r.2.1, r.2.2) else lb k').1 (if k' = k - 2 then (r.2.1, r.2.2) else lb k').2 b0) ∨ (gi ν4 63 0 (4 * S + k') = gi ν4 64 0 (4 * S + k') ∧ (if k' = k - 2 then (r.2.1, r.2.2) else lb k') = ([], [dfl k'])))
  by_cases y : k' = k - 2
  · rw [if_pos y]
    refine ⟨lo1, ⟨P, ?_, k5⟩, Or.inl ⟨b, ?_, ?_, c4, Nat.le_refl _, rBx_kp c7 (Nat.le_refl _) _ _ _ (fun _ _ _ _ _ _ => rfl) (fun _ _ _ _ _ => rfl) m8⟩⟩
    · rw [y, fr_n s2 (by unfold FE; omega), ← hμ3, gi_eq, y6]
    · rw [y]
      exact m9
    · rw [y]
      exact m10
  · rw [if_neg y]
    obtain ⟨z1, ⟨p, z2, z3⟩, z4⟩ := rl k' hk'
    refine ⟨z1, ⟨p, (nC (by unfold FA FE; omega)).trans z2, cEnc_kp (Nat.le_of_lt PP) cell _ _ _ z3⟩, ?_⟩
    have k63 : ∀ c, c = 63 ∨ c = 64 → gi ν4 c 0 (4 * S + k') = gi ν c 0 (4 * S + k') := fun c hc => g4.2.2.2 c _ hc (fun w => y (Nat.add_left_cancel w))
    rcases z4 with ⟨b0, i1, i2, i3, i4, i5⟩ | ⟨i1, i2⟩
    · exact Or.inl ⟨b0, (k63 63 (Or.inl rfl)).trans i1, (k63 64 (Or.inr rfl)).trans i2, i3, by omega, rBx_kp (Nat.le_refl _) m6 _ _ _ (fun c j j1 j2 j3 j4 => g4.2.2.1 c j j1 j2 (Or.inl (by omega))) (fun c j j1 j2 j3 => g4.2.1 c j j1 (Or.inl j3)) i5⟩
    · exact Or.inr ⟨by rw [k63 63 (Or.inl rfl), k63 64 (Or.inr rfl)]; exact i1, i2⟩
theorem p_tellX {F T S N t k : Nat} {K : Nat → Tk} {D : Int32 × Int32} {X : (Nat × Nat × Int32) × (Nat → List (Int32 × Int32)) × (Nat → List (Int32 × Int32)) × (Nat → List Br × List Int32)} {μ ν : Mm} (g : Gk K N) (h : RD T S K N t D X μ ν) (hk : tkd K t = k) (hk7 : 7 ≤ k) : ∃ μ' ν', fX2_readTell F (nI k) μ = some μ' ∧ fX12_tellOne F ν = some ν' ∧ TO2 T S K N t μ ν μ' ν' := by
  obtain ⟨nms, P, b, C, ⟨⟨hl, hlr, h12, h19⟩, _⟩, rq, rf, rl, rd, c1, c2, c3, c4, c5, c6, c7, c8⟩ := h
  have tN := hlr.2.2.2
  have hN := g.1.1
  have k34 := g.2.1 t
  have hk' : (K t).1 = k := hk
  obtain ⟨q20, q21, q26, _, q7⟩ := km_t k (by omega)
  obtain ⟨μ1, a1, a2, a3⟩ := p_failC (F := F) (f := 1) hl.1 hl.2.1 (Or.inl rfl) (show P ≤ 408 by omega) c1
  obtain ⟨ν1, b1, b2, b3⟩ := p_failR (F := F) (f := 1) g hlr (Or.inl rfl)
  rw [hl.2.2.2.1.2.2.1] at a3
  refine ⟨μ1, ν1, ?_, ?_, fr_of a2 FA_FTC (fun c q => Or.inl q), fr_of b2 FB_FTR (fun c q => q.elim), Or.inl ⟨_, a3, b3⟩⟩
  · unfold fX2_readTell fX2_readTell_L57
    rw [if_neg (show ¬ nI k = 0 by rw [show (0 : Int32) = nI 0 from rfl, nn_inj (by omega) (by omega)]; omega), if_neg (show ¬ nI k = 1 by rw [show (1 : Int32) = nI 1 from rfl, nn_inj (by omega) (by omega)]; omega), if_neg (show ¬ nI k < 2 by rw [show (2 : Int32) = nI 2 from rfl, nn_lt (by omega) (by omega)]; omega), if_pos (show 5 < nI k by rw [show (5 : Int32) = nI 5 from rfl, nn_lt (by omega) (by omega)]; omega), if_neg (show ¬ nI k = 6 by rw [show (6 : Int32) = nI 6 from rfl, nn_inj (by omega) (by omega)]; omega), a1, bd1_s]
  · unfold fX12_tellOne
    rw [hlr.2.2.1, if_pos ((nn_inb (by omega)).mpr (by omega)), nn_cl (by omega), (hlr.2.1 t tN).1, hk', if_neg (fun w => by have := q20.mp w; omega), if_neg (fun w => by have := q21.mp w; omega), if_neg (fun w => by have := q26.mp w; omega)]
    unfold fX12_tellOne_L240 fX12_tellOne_L245
    by_cases y : km k - 22 < 0
    · rw [if_pos y, b1, bd1_s, if_neg (deadR b3).2.1]
    · rw [if_neg y, if_neg ((q7 hk7).resolve_left y), b1, bd1_s, if_neg (deadR b3).2.1]
theorem p_tell {F T S N t : Nat} {K : Nat → Tk} {D : Int32 × Int32} {X : (Nat × Nat × Int32) × (Nat → List (Int32 × Int32)) × (Nat → List (Int32 × Int32)) × (Nat → List Br × List Int32)} {μ ν : Mm} (hF : 1000 ≤ F) (hT : T < 2) (hS : S < 2) (g : Gk K N) (h : RD T S K N t D X μ ν) : ∃ μ' ν', fX2_readTell F (nI (tkd K t)) μ = some μ' ∧ fX12_tellOne F ν = some ν' ∧ TO2 T S K N t μ ν μ' ν' := by
  rcases (show tkd K t = 0 ∨ tkd K t = 1 ∨ tkd K t = 6 ∨ (2 ≤ tkd K t ∧ tkd K t ≤ 5) ∨ 7 ≤ tkd K t by omega) with y | y | y | y | y
  · rw [y]
    exact p_tellS hF hT hS g h y
  · rw [y]
    exact p_tellF hF hT hS g h y
  · rw [y]
    exact p_tellG hT hS g h y
  · exact p_tellL hF hT hS g h rfl y
  · exact p_tellX g h rfl y
