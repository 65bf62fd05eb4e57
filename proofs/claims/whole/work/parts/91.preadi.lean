def TO2 (T S : Nat) (K : Nat → Tk) (N t : Nat) (μ ν μ' ν' : Mm) : Prop := fr (FTC T) QRow μ μ' ∧ fr (FTR S) Q55 ν ν' ∧ ((∃ e, DdC T e μ' ∧ DdR e ν') ∨ ∃ t' D X, t < t' ∧ RD T S K N t' D X μ' ν')
theorem ftc_r {T c i j : Nat} (hc : c = 3 ∨ c = 25 ∨ c = 26 ∨ c = 6) (h1 : 9 * T ≤ i) (h2 : i < 9 * T + 9) : FTC T c i j := Or.inr (Or.inr (Or.inr (Or.inr (Or.inr (Or.inr (Or.inr ⟨hc, h1, h2⟩))))))
theorem FA_FTC {T : Nat} : ∀ c i j, FA c i j → FTC T c i j := fun c i j h => by
  rcases h with h | ⟨h1, h2⟩
  · exact Or.inr (Or.inl h)
  · exact Or.inl ⟨h1, by omega⟩
theorem FRw_FTC {T r : Nat} (h1 : 9 * T ≤ r) (h2 : r < 9 * T + 9) : ∀ c i j, FRw r c i j → FTC T c i j := fun c i j h => ftc_r h.1 (by rw [h.2]; exact h1) (by rw [h.2]; exact h2)
theorem FRo_FTC {T r : Nat} (h1 : 9 * T ≤ r) (h2 : r < 9 * T + 9) : ∀ c i j, FRo T r c i j → FTC T c i j := fun c i j h => by
  rcases h with (h | h | h) | h | h
  · exact FA_FTC c i j h
  · exact Or.inl ⟨h.1, by have := h.2; omega⟩
  · exact FRw_FTC h1 h2 c i j h
  · exact Or.inr (Or.inr (Or.inr (Or.inr (Or.inr (Or.inl ⟨h.1, h.2.1⟩)))))
  · exact Or.inr (Or.inr (Or.inr (Or.inr (Or.inr (Or.inr (Or.inl h))))))
theorem FB_FTR {S : Nat} : ∀ c i j, FB c i j → FTR S c i j := fun c i j h => Or.inl ⟨h.1, by have := h.2; omega⟩
theorem FRp_FTR {S q x : Nat} (h1 : 9 * S ≤ q) (h2 : q < 9 * S + 9) : ∀ c i j, FRp q x c i j → FTR S c i j := fun c i j h => by
  rcases h with (h | h | h) | h | h
  · exact FB_FTR c i j h
  · exact Or.inl ⟨h.1, by have := h.2; omega⟩
  · rcases h with h | ⟨g1, g2, g3⟩
    · exact Or.inr (Or.inr (Or.inr (Or.inr (Or.inr (Or.inr (Or.inl ⟨h.1, by have := h.2; omega, by have := h.2; omega⟩))))))
    · exact Or.inr (Or.inr (Or.inr (Or.inr (Or.inr (Or.inr (Or.inr ⟨g1, by omega, by omega⟩))))))
  · exact Or.inl ⟨h.1, by have := h.2; omega⟩
  · exact Or.inr (Or.inr (Or.inr (Or.inr (Or.inl (Or.inr (Or.inl h.1))))))
theorem nFR {q x c j s : Nat} (g1 : 63 ≤ c) (g2 : c ≤ 71) : ¬ (FB c 0 j ∨ FRp q x c 0 j ∨ (c = 56 ∧ j = s)) := fun h => by
  rcases h with h | ((h | h | h) | h | h) | h
  · have := h.1; omega
  · have := h.1; omega
  · have := h.1; omega
  · rcases h with h | ⟨h, _⟩
    · have := h.1; omega
    · omega
  · have := h.1; omega
  · have := h.1; omega
  · have := h.1; omega
theorem p_tellS {F T S N t : Nat} {K : Nat → Tk} {D : Int32 × Int32} {X : (Nat × Nat × Int32) × (Nat → List (Int32 × Int32)) × (Nat → List (Int32 × Int32)) × (Nat → List Br × List Int32)} {μ ν : Mm} (hF : 1000 ≤ F) (hT : T < 2) (hS : S < 2) (g : Gk K N) (h : RD T S K N t D X μ ν) (hk : tkd K t = 0) : ∃ μ' ν', fX2_readTell F (nI 0) μ = some μ' ∧ fX12_tellOne F ν = some ν' ∧ TO2 T S K N t μ ν μ' ν' := by
  obtain ⟨⟨n, m, sd⟩, qs, fs, lb⟩ := X
  obtain ⟨nms, P, b, C, ⟨⟨hl, hlr, h12, h19⟩, n4, m5, e0, e1, e2, x56, x57, x62⟩, rq, rf, rl, ⟨⟨d1, d2, d3, d4⟩, nl, nc, nr⟩, c1, c2, c3, c4, c5, c6, c7, c8⟩ := h
  have n4 : n ≤ 4 := n4
  have m5 : m ≤ 5 := m5
  have e0 : gi μ 8 T 0 = nI n := e0
  have e1 : gi μ 8 T 1 = nI m := e1
  have e2 : gi μ 8 T 2 = sd := e2
  have x56 : gi ν 56 0 S = nI n := x56
  have x57 : gi ν 57 0 S = nI m := x57
  have x62 : gi ν 62 0 S = sd := x62
  have rq : RDq T S n qs D μ ν := rq
  have rf : RDf T S m fs D μ ν := rf
  have rl : RDl T S P b C lb μ ν := rl
  have nl : nms.length = n + m := nl
  have tN := hlr.2.2.2
  have hN := g.1.1
  have k34 := g.2.1 t
  have hk' : (K t).1 = 0 := hk
  have eC : fX2_readTell F (nI 0) μ = (bd2 (fX8_nextSquare F T μ) fun r31 μ30 => oel r31 (bd1 (fX2_readRowN F (nI 0) μ30) fun μ36 => some (μ36)) (fun i33 => bd1 (fX2_readRowS F (nI 0) i33 μ30) fun μ39 => some (μ39))) := by
    unfold fX2_readTell
    rw [if_pos (show nI 0 = 0 from rfl), hl.2.1, tx_nI hT]
  have eR : fX12_tellOne F ν = (bd1 (fX12_roomFor F (nI n) 4 ν) fun μ7 => if (gi μ7 12 0 13) ≤ 0 then (if inb (gi μ7 12 0 19) 2 = true then bd1 (fX12_tellRow F ((9 * (gi μ7 12 0 19)) + (gi μ7 56 0 (gi μ7 12 0 19).toNatClampNeg)) 1 μ7) fun μ13 => if (gi μ13 12 0 13) = 0 then (if inb (gi μ13 12 0 19) 2 = true then some (si μ13 56 0 (gi μ13 12 0 19).toNatClampNeg ((gi μ13 56 0 (gi μ13 12 0 19).toNatClampNeg) + 1)) else none) else (some (μ13)) else none) else (some (μ7))) := by
    unfold fX12_tellOne
    rw [hlr.2.2.1, if_pos ((nn_inb (by omega)).mpr (by omega)), nn_cl (by omega), (hlr.2.1 t tN).1, hk', if_pos (show km 0 = 20 from rfl), h19, if_pos ((nn_inb (by omega)).mpr (by omega)), nn_cl (by omega), x56]
  rw [eC, eR]
  unfold fX12_roomFor fX12_roomFor_L10 fX8_nextSquare
  rw [e0]
  by_cases hn : n = 4
  · rw [if_neg (by rw [hn]; decide), bd2_s, oel_n, if_pos (by rw [hn]; rfl)]
    obtain ⟨μ1, a1, a2, a3⟩ := p_failC (F := F) (f := 2) hl.1 hl.2.1 (Or.inr rfl) (show P ≤ 408 by omega) c1
    obtain ⟨ν1, b1, b2, b3⟩ := p_failR (F := F) (f := 2) g hlr (Or.inr rfl)
    rw [hl.2.2.2.1.2.2.1] at a3
    unfold fX2_readRowN
    rw [a1, bd1_s, bd1_s, b1, bd1_s, if_neg (deadR b3).1, bd1_s, if_neg (deadR b3).2.1]
    exact ⟨μ1, ν1, rfl, rfl, fr_of a2 FA_FTC (fun c q => Or.inl q), fr_of b2 FB_FTR (fun c q => q.elim), Or.inl ⟨_, a3, b3⟩⟩
  rw [if_pos (by rw [show (4 : Int32) = nI 4 from rfl, nn_lt (by omega) (by omega)]; omega), if_pos ((nn_inb (by omega)).mpr (by omega)), nn_cl (by omega), if_neg (show ¬ nI n = 4 by rw [show (4 : Int32) = nI 4 from rfl, nn_inj (by omega) (by omega)]; exact hn), if_pos hlr.1]
  obtain ⟨μ1, a1, a2, a3⟩ := p_clrRow (F := F) (r := 9 * T + n) (μ := μ)
  have g0 : gi μ1 8 T 0 = nI n := (fr_n a2 (by unfold FRw; omega)).trans e0
  rw [a1, bd1_s, g0, nn_s, bd2_s, oel_s]
  generalize hμ2 : si μ1 8 T 0 (nI (n + 1)) = μ2
  have f2 : fr (fun c i j => FRw (9 * T + n) c i j ∨ (c = 8 ∧ i = T ∧ j = 0)) (fun _ => False) μ μ2 := by
    rw [← hμ2]
    exact fr_tr (fr_of a2 (fun c i j q => Or.inl q) (fun c q => q)) (fr_si (Or.inr ⟨rfl, rfl, rfl⟩))
  have n2 : ∀ {c i j}, ¬ (FRw (9 * T + n) c i j ∨ (c = 8 ∧ i = T ∧ j = 0)) → gi μ2 c i j = gi μ c i j := fun w => fr_n f2 w
  have l2 : LC T K N t μ2 := LC_gq f2 (fr_m f2 (fun w => w)) (fun w => w) ⟨by unfold FRw; omega, by unfold FRw; omega⟩ (fun j hj => by unfold FRw; omega) (fun c j h1 h2 => by unfold FRw; omega) hl
  have r2 : RwC μ2 (9 * T + n) [] := by
    rw [← hμ2]
    exact RwC_fr (P := fun c i j => c = 8) (Q := fun _ => False) (fr_si rfl) (fun c j hc => by omega) a3
  have w2 : gi μ2 8 T 0 = nI (n + 1) := by rw [← hμ2, gi_eq]
  obtain ⟨μ3, u1, u2, u3⟩ := p_rowC (F := F) (T := T) (P := P) (r := 9 * T + n) (t := t) (nms := nms) (sq := true) (wd := 0) (D := D) hF hT g (by omega) rfl l2 r2 ((n2 (by unfold FRw; omega)).trans d1) ((n2 (by unfold FRw; omega)).trans d2) ((n2 (by unfold FRw; omega)).trans c1) ⟨(n2 (by unfold FRw; omega)).trans nc.1, fun z hz => (fr_m f2 (fun w => w)).trans (nc.2 z hz)⟩ (by omega)
  have fC : fr (FTC T) QRow μ μ3 := fr_tr (fr_of f2 (fun c i j q => by rcases q with q | q; exact FRw_FTC (by omega) (by omega) c i j q; exact Or.inr (Or.inr (Or.inr (Or.inr (Or.inr (Or.inl ⟨q.1, q.2.1⟩)))))) (fun c q => q.elim)) (fr_of u2 (FRo_FTC (by omega) (by omega)) (fun c q => q))
  obtain ⟨ν1, b1, b2, b3⟩ := p_goesR (F := F) g hlr (by omega)
  have adv0 : adv K t 0 = if t = 400 then Sum.inl (2, pl K t) else Sum.inr (t + 1) := by
    unfold adv
    rw [if_pos hk]
  rw [← adv0] at b3
  have fR1 : fr (FTR S) Q55 ν ν1 := fr_of b2 FB_FTR (fun c q => q.elim)
  rw [u1, bd1_s, b1, bd1_s, bd1_s]
  cases h1 : adv K t 0 with
  | inl e =>
    rw [h1] at b3 u3
    rw [if_neg (deadR b3).2.1]
    exact ⟨μ3, ν1, rfl, rfl, fC, fR1, Or.inl ⟨e, u3, b3⟩⟩
  | inr t1 =>
  rw [h1] at b3 u3
  obtain ⟨rfl, _, _⟩ := adv_r h1
  rw [sbd_r] at u3
  have z19 : gi ν1 12 0 19 = nI S := (fr_n b2 (by unfold FB; omega)).trans h19
  have z56 : gi ν1 56 0 S = nI n := (fr_n b2 (by unfold FB; omega)).trans x56
  rw [b3.1, if_pos (by decide), z19, if_pos ((nn_inb (by omega)).mpr (by omega)), nn_cl (by omega), z56, show (9 : Int32) = nI 9 from rfl, nn_mul, nn_add]
  obtain ⟨ν2, v1, v2, v3⟩ := p_rowR (F := F) (S := S) (q := 9 * S + n) (x := 9 * S + n - 5 * S) (t1 := t + 1) (nms := nms) (sq := true) (v2 := 1) (D := D) hF g hS (by omega) (fun _ => ⟨by omega, by omega⟩) (fun _ => rfl) rfl b3 z19 (DoR_fr b2 ⟨by unfold FB; omega, by unfold FB; omega⟩ d3) d4 ⟨(fr_n b2 (by unfold FB; omega)).trans nr.1, fun z hz => (fr_m b2 (fun w => w)).trans (nr.2 z hz)⟩ (by omega)
  have fR2 : fr (FTR S) Q55 ν ν2 := fr_tr fR1 (fr_of v2 (FRp_FTR (by omega) (by omega)) (fun c q => q))
  rw [v1, bd1_s]
  cases h2 : rowg K (t + 1) with
  | inl e =>
    rw [h2] at v3 u3
    rw [if_neg (deadR v3).1]
    exact ⟨μ3, ν2, rfl, rfl, fC, fR2, Or.inl ⟨e, u3, v3⟩⟩
  | inr s =>
  rw [h2] at v3 u3
  obtain ⟨q1, q2, q3, q4, q5⟩ := u3
  obtain ⟨p1, p2, p3, p4, p5⟩ := v3
  obtain ⟨s1, s2, s3, s4⟩ := rowg_lt g.2.2 h2
  have y19 : gi ν2 12 0 19 = nI S := (fr_n v2 (by unfold FRp FMr FB FDo FRr; omega)).trans z19
  have y56 : gi ν2 56 0 S = nI n := (fr_n v2 (by unfold FRp FMr FB FDo FRr; omega)).trans z56
  rw [p1.1, if_pos rfl, y19, if_pos ((nn_inb (by omega)).mpr (by omega)), nn_cl (by omega), y56, nn_s]
  generalize hν3 : si ν2 56 0 S (nI (n + 1)) = ν3
  have f3 : fr (fun c i j => c = 56 ∧ j = S) Q0 ν2 ν3 := by
    rw [← hν3]
    exact fr_si ⟨rfl, rfl⟩
  have fR3 : fr (FTR S) Q55 ν ν3 := fr_tr fR2 (fr_of f3 (fun c i j q => Or.inr (Or.inr (Or.inr (Or.inr (Or.inr (Or.inl ⟨Or.inl q.1, q.2⟩)))))) (fun c q => q.elim))
  have fRx : fr (fun c i j => FB c i j ∨ FRp (9 * S + n) (9 * S + n - 5 * S) c i j ∨ (c = 56 ∧ j = S)) Q55 ν ν3 := fr_tr (fr_of b2 (fun c i j q => Or.inl q) (fun c q => q.elim)) (fr_tr (fr_of v2 (fun c i j q => Or.inr (Or.inl q)) (fun c q => q)) (fr_of f3 (fun c i j q => Or.inr (Or.inr q)) (fun c q => q.elim)))
  have fCx : fr (fun c i j => (FRw (9 * T + n) c i j ∨ (c = 8 ∧ i = T ∧ j = 0)) ∨ FRo T (9 * T + n) c i j) QRow μ μ3 := fr_tr (fr_of f2 (fun c i j q => Or.inl q) (fun c q => q.elim)) (fr_of u2 (fun c i j q => Or.inr q) (fun c q => q))
  have nR : ∀ {c i j}, ¬ (FB c i j ∨ FRp (9 * S + n) (9 * S + n - 5 * S) c i j ∨ (c = 56 ∧ j = S)) → gi ν3 c i j = gi ν c i j := fun w => fr_n fRx w
  have nC : ∀ {c i j}, ¬ ((FRw (9 * T + n) c i j ∨ (c = 8 ∧ i = T ∧ j = 0)) ∨ FRo T (9 * T + n) c i j) → gi μ3 c i j = gi μ c i j := fun w => fr_n fCx w
  have hD0 : (rowD K nms true D (t + 1) s.2.1 s.2.2).1 = 0 → D.1 = 0 := fun w => (rowD_0 d4 w).1
  have rq' := RDq_fr (D' := rowD K nms true D (t + 1) s.2.1 s.2.2) fCx fRx (fun c i j hc g1 g2 => by rcases hc with rfl | rfl | rfl | rfl <;> (unfold FRw FRo FMv FA FDR FDb FRw; omega)) (fun j g1 g2 => by unfold FB FRp FMr FB FDo FRr; omega) hD0 rq
  have rf' := RDf_fr (D' := rowD K nms true D (t + 1) s.2.1 s.2.2) fCx fRx (fun c i j hc g1 g2 => by rcases hc with rfl | rfl | rfl | rfl <;> (unfold FRw FRo FMv FA FDR FDb FRw; omega)) (fun c j hc => by rcases hc with ⟨rfl, g1, g2⟩ | ⟨rfl | rfl, g1, g2⟩ <;> (unfold FB FRp FMr FB FDo FRr; omega)) hD0 rf
  have rl' := RDl_fr (μ' := μ3) (fun k => nC (by unfold FRw FRo FMv FA FDR FDb FRw; omega)) (fun j hj => nC (by unfold FRw FRo FMv FA FDR FDb FRw; omega)) fRx (fun c j g1 g2 => nFR g1 g2) rl
  refine ⟨μ3, ν3, rfl, rfl, fC, fR3, Or.inr ⟨s.1, rowD K nms true D (t + 1) s.2.1 s.2.2, ((n + 1, m, sd), fun i => if i = n then s.2.1 else qs i, fs, lb), by omega, nms ++ [nmT K (t + 1)], P, b, C, ⟨⟨q1, LR_fr f3 ⟨by omega, by omega⟩ (fun c j h1 h2 => by omega) p1, (nR (by unfold FB FRp FMr FB FDo FRr; omega)).trans h12, (nR (by unfold FB FRp FMr FB FDo FRr; omega)).trans h19⟩, by show n + 1 ≤ 4; omega, m5, (fr_n u2 (by unfold FRo FMv FA FDR FDb FRw; omega)).trans w2, (nC (by unfold FRw FRo FMv FA FDR FDb FRw; omega)).trans e1, (nC (by unfold FRw FRo FMv FA FDR FDb FRw; omega)).trans e2, by rw [← hν3, gi_eq], (nR (by unfold FB FRp FMr FB FDo FRr; omega)).trans x57, (nR (by unfold FB FRp FMr FB FDo FRr; omega)).trans x62⟩, fun i hi => ?_, rf', rl', ⟨⟨q3, q4, DoR_fr f3 ⟨by omega, by omega⟩ p3, rowD_dvd d4⟩, ?_, q5, (fr_n f3 (by omega)).trans p4.1, fun z hz => (fr_m f3 (fun w => w)).trans (p4.2 z hz)⟩, (nC (by unfold FRw FRo FMv FA FDR FDb FRw; omega)).trans c1, by omega, (nR (by unfold FB FRp FMr FB FDo FRr; omega)).trans c3, c4, by omega, (nR (by unfold FB FRp FMr FB FDo FRr; omega)).trans c6, c7, by omega⟩⟩
  · have hi : i < n + 1 := hi
    show RwC μ3 (9 * T + i) (if i = n then s.2.1 else qs i) ∧ (∀ w ∈ (if i = n then s.2.1 else qs i), mvw w) ∧ gi ν3 61 0 (4 * S + i) = atR (mkl (if i = n then s.2.1 else qs i) (0, 1)) ∧ ((rowD K nms true D (t + 1) s.2.1 s.2.2).1 = 0 → (mkl (if i = n then s.2.1 else qs i) (0, 1)).isSome = true)
    by_cases y : i = n
    · rw [if_pos y, y]
      refine ⟨q2, s2, ?_, fun w => (rowD_0 d4 w).2.2 rfl⟩
      have := p5 rfl
      rw [show 9 * S + n - 5 * S = 4 * S + n by omega] at this
      exact (fr_n f3 (by omega)).trans this
    · rw [if_neg y]
      exact rq' i (by omega)
  · show (nms ++ [nmT K (t + 1)]).length = n + 1 + m
    rw [List.length_append, List.length_singleton]
    omega
