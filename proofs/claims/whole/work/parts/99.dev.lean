/-! PURE: calls that change nothing, and those by hand -/
theorem p_in1 {F : Nat} {ν : Mm} {a lo hi : Int32} {x y : Int} (hx : lo.toInt = x) (hy : hi.toInt = y) (h : x ≤ a.toInt ∧ a.toInt ≤ y) : fX12_in F a lo hi ν = some (1, ν) := by
  rw [p_in, if_pos (by omega)]
theorem p_in0 {F : Nat} {ν : Mm} {a lo hi : Int32} {x y : Int} (hx : lo.toInt = x) (hy : hi.toInt = y) (h : ¬ (x ≤ a.toInt ∧ a.toInt ≤ y)) : fX12_in F a lo hi ν = some (0, ν) := by
  rw [p_in, if_neg (by omega)]
theorem enc_0le {t : Tg} (h : tV t) : 0 ≤ enc t := by
  have := enc_nn h
  rw [i_lt0] at this
  rw [i_0le]
  omega
theorem n1_0 : ¬ (1 : Int32) = 0 := by decide
theorem IE_sq {n i : Nat} {e : Es} {μ ν : Mm} (h : IE n e μ ν) (hi : i < n) (hn : n ≤ 4) : tgC μ i = (e.1 i).1 ∧ gi μ 5 i 2 = (e.1 i).2.1 ∧ gi μ 5 i 3 = (e.1 i).2.2 ∧ qOk (e.1 i) ∧ gi ν 75 0 i = enc (e.1 i).1 ∧ gi ν 75 0 (4 + i) = (e.1 i).2.1 ∧ gi ν 75 0 (8 + i) = (e.1 i).2.2 := by
  obtain ⟨⟨h1, h2, h3⟩, ⟨r1, r2, r3, r4⟩, g1, g2⟩ := h
  have hs := h1 i (by omega)
  exact ⟨congrArg Prod.fst hs, congrArg (fun q => q.2.1) hs, congrArg (fun q => q.2.2) hs, g1 i (by omega), r1 i hi, (r2 i (by omega)).1, (r2 i (by omega)).2⟩
theorem o_place {F : Nat} : st2 Inv (fX11_place F) (fX12_place F) := fun u s μ ν q => by
  obtain ⟨T, S, X, e, q1, q2, q3⟩ := id q
  refine ⟨gi μ 2 0 1, μ, ν, rfl, ?_, q⟩
  unfold fX12_place
  rw [q1.2.2.2.2.2.2.2.2.2.2.1]
/-- the row is as what stands now -/
theorem p_cop {F S : Nat} {X : Xt} {ν : Mm} (hF : 1000 ≤ F) (hS2 : S < 2) (hS : gi ν 12 0 18 = nI S) (hR : RT ν S X) : ∃ ν1, fX12_copies F ν = some ν1 ∧ ag SR ν ν1 ∧ (∀ z, z < 14 → gi ν1 76 0 z = gi ν 75 0 z) ∧ gi ν1 12 0 47 = xs X := by
  refine ⟨_, p_copies hF hS2 hS hR, ⟨fun c i j h => ?_, fun _ _ _ => rfl⟩, fun z hz => ?_, ?_⟩
  · unfold SR at h
    rw [gi_si, if_neg (by omega), gi_bw, if_neg (by omega)]
  · rw [gi_si, if_neg (by omega), gi_bw, if_pos (by omega)]
  · rw [gi_si, if_pos ⟨rfl, rfl, rfl⟩]
theorem Sv_SC : ∀ c i j, Sv c i j → SC c i j := fun c i j h => by
  unfold Sv at h
  unfold SC
  omega
theorem Sk_SC : ∀ c i j, Sk c i j → SC c i j := fun c i j h => by
  unfold Sk at h
  unfold SC
  omega
theorem Pl_SR : ∀ c i j, Pl c i j → SR c i j := fun c i j h => by
  unfold Pl at h
  unfold SR
  omega
theorem Pm_SR : ∀ c i j, Pm c i j → SR c i j := fun c i j h => by
  unfold Pm Pl at h
  unfold SR
  omega
theorem RT_SR {ν ν' : Mm} {S : Nat} {X : Xt} (h : ag SR ν ν') (q : RT ν S X) : RT ν' S X := RT_of (fun c j g1 g2 => ag_n h (by unfold SR; omega)) q
theorem live_SR {ν ν' : Mm} {S : Nat} (h : ag SR ν ν') (q : gi ν 12 0 18 = nI S) : gi ν' 12 0 18 = nI S := (ag_n h (by unfold SR; omega)).trans q
theorem o_square {F : Nat} (hF : 1000 ≤ F) (a b : Int32) : st2 Inv (fX11_square F a b) (fX12_square F a b) := fun u s μ ν q => by
  obtain ⟨T, S, X, e, q1, q2, q3⟩ := id q
  unfold fX11_square fX12_square
  rcases p_sq (F := F) q1 a with ⟨i, hi, rfl, hc, hr⟩ | ⟨hc, hr⟩
  · rw [hc, hr, bd2_s, bd2_s, oel_s, if_neg n1_0]
    obtain ⟨a1, a2, a3, a4, a5, a6, a7, a8, _⟩ := q1
    have h4 := a3.1
    obtain ⟨t1, t2, t3, t4, t5, t6, t7⟩ := IE_sq q2 hi h4
    obtain ⟨ν1, c1, c2, c3, c4⟩ := p_cop (F := F) hF a2 a6 a8
    have i14 : inb (nI i) 14 = true := (nn_inb (by omega)).mpr (by omega)
    have i4 : inb (4 + nI i) 14 = true := by
      rw [show (4 : Int32) = nI 4 from rfl, nn_add]
      exact (nn_inb (by omega)).mpr (by omega)
    have i8 : inb (8 + nI i) 14 = true := by
      rw [show (8 : Int32) = nI 8 from rfl, nn_add]
      exact (nn_inb (by omega)).mpr (by omega)
    have k4 : (4 + nI i).toNatClampNeg = 4 + i := by
      rw [show (4 : Int32) = nI 4 from rfl, nn_add, nn_cl (by omega)]
    have k8 : (8 + nI i).toNatClampNeg = 8 + i := by
      rw [show (8 : Int32) = nI 8 from rfl, nn_add, nn_cl (by omega)]
    have tv : tV (e.1 i).1 := t4.1
    rw [c1, bd1_s, if_pos i14, if_pos i14, if_pos i14, if_pos i14, if_pos i4, if_pos i8, nn_cl (by omega), c3 i (by omega), t5, p_over tv, p_under tv, p_crossR hF tv, p_endsR tv, bd2_s, bd2_s, bd2_s, bd2_s, k4, k8, c3 (4 + i) (by omega), c3 (8 + i) (by omega), t6, t7, p_crossC hF (by rw [t1]; exact tv), p_endsC, bd2_s, bd2_s, t1, t2, t3, show gi μ 5 i 0 = (e.1 i).1.1 from congrArg Prod.fst t1, show gi μ 5 i 1 = (e.1 i).1.2 from congrArg Prod.snd t1, a4, tx_nI a1]
    have min : gi μ 0 0 1 = gi ν 75 0 12 := q2.1.2.1.trans q2.2.1.2.2.1.symm
    have fin : ∀ r : Int32, ∃ r' μ' ν', some (r, μ) = some (r', μ') ∧ some (r, ν1) = some (r', ν') ∧ Inv u s μ' ν' := fun r => ⟨r, μ, ν1, rfl, rfl, Inv_scr ag_rfl c2 q⟩
    have hR1 := RT_SR c2 a8
    have hS1 := live_SR c2 a6
    have law : ∀ (k : Nat) (hk : k < 4) (g : Option (Int32 × Mm)), (∃ ν2, ag Pl ν1 ν2 ∧ g = some (wth X k (vrS (e.1 i).1 (gi ν1 76 0 (4 + i)) (gi ν1 76 0 12) (nI i) 0 (gi ν1 76 0 (8 + i))), ν2)) → ∃ r' μ' ν', (bd2 (fX8_worth F T (nI k) i (nI i) (gi μ 0 0 1) 0 μ) fun r μ' => some (r, μ')) = some (r', μ') ∧ (bd2 g fun r μ' => some (r, μ')) = some (r', ν') ∧ Inv u s μ' ν' := fun k hk g hg => by
      obtain ⟨ν2, d1, d2⟩ := hg
      obtain ⟨μ1, b1, b2⟩ := p_worth (F := F) (k := k) (i := i) (number := nI i) (minute := gi μ 0 0 1) (moves := 0) hF a3 a7 hk (by rw [t1]; exact tv)
      rw [b2, d2, bd2_s, bd2_s, t1, t2, t3, min, c3 (4 + i) (by omega), c3 (8 + i) (by omega), c3 12 (by omega), t6, t7]
      exact ⟨_, μ1, ν2, rfl, rfl, Inv_scr (ag_of b1 Sv_SC) (ag_tr c2 (ag_of d1 Pl_SR)) q⟩
    have hr0 : gi ν1 76 0 i = enc (e.1 i).1 := (c3 i (by omega)).trans t5
    by_cases b0 : b = 0
    · rw [if_pos b0, if_pos b0]
      exact fin _
    rw [if_neg b0, if_neg b0]
    by_cases b1 : b = 1
    · rw [if_pos b1, if_pos b1]
      exact fin _
    rw [if_neg b1, if_neg b1]
    by_cases b2 : b = 2
    · rw [if_pos b2, if_pos b2]
      exact fin _
    rw [if_neg b2, if_neg b2]
    by_cases b3 : b = 3
    · rw [if_pos b3, if_pos b3]
      exact fin _
    rw [if_neg b3, if_neg b3]
    by_cases b4 : b = 4
    · rw [if_pos b4, if_pos b4]
      exact fin _
    rw [if_neg b4, if_neg b4]
    by_cases b5 : b = 5
    · rw [if_pos b5, if_pos b5]
      exact law 1 (by decide) _ (p_restsR hF hS1 a2 a3 hR1 (by omega) tv hr0)
    rw [if_neg b5, if_neg b5]
    by_cases b6 : b = 6
    · rw [if_pos b6, if_pos b6]
      exact law 2 (by decide) _ (p_paysR hF hS1 a2 a3 hR1 (by omega) tv hr0)
    rw [if_neg b6, if_neg b6]
    by_cases b7 : b = 7
    · rw [if_pos b7, if_pos b7]
      exact law 3 (by decide) _ (p_slipsR hF hS1 a2 a3 hR1 (by omega) tv hr0)
    rw [if_neg b7, if_neg b7]
    by_cases b8 : b = 8
    · rw [if_pos b8, if_pos b8]
      exact fin _
    rw [if_neg b8, if_neg b8]
    exact fin _
  · rw [hc, hr, bd2_s, bd2_s, oel_n, if_pos rfl]
    exact ⟨_, μ, ν, rfl, rfl, q⟩
theorem o_tires {F : Nat} (hF : 1000 ≤ F) (a b : Int32) : st2 Inv (fX11_tires F a b) (fX12_tires F a b) := fun u s μ ν q => by
  obtain ⟨T, S, X, e, q1, q2, q3⟩ := id q
  unfold fX11_tires fX12_tires
  rcases p_sq (F := F) q1 a with ⟨i, hi, rfl, hc, hr⟩ | ⟨hc, hr⟩
  · rw [hc, hr, bd2_s, bd2_s, oel_s, if_neg n1_0]
    rcases p_fig (F := F) q1 b with ⟨f, hf, rfl, gc, gr⟩ | ⟨gc, gr⟩
    · rw [gc, gr, bd2_s, bd2_s, oel_s, if_neg n1_0]
      obtain ⟨a1, a2, a3, a4, a5, a6, a7, a8, _⟩ := q1
      have h4 := a3.1
      obtain ⟨t1, t2, t3, t4, t5, t6, t7⟩ := IE_sq q2 hi h4
      obtain ⟨ν1, c1, c2, c3, c4⟩ := p_cop (F := F) hF a2 a6 a8
      have min : gi μ 0 0 1 = gi ν 75 0 12 := q2.1.2.1.trans q2.2.1.2.2.1.symm
      obtain ⟨ν2, d1, d2⟩ := p_tiresR (F := F) hF (live_SR c2 a6) a2 a3 (RT_SR c2 a8) (show i < 4 by omega) hf t4.1 ((c3 i (by omega)).trans t5)
      obtain ⟨μ1, b1, b2⟩ := p_worth (F := F) (k := 0) (i := i) (number := nI i) (minute := gi μ 0 0 1) (moves := gi μ 3 (9 * T + 4 + f) 0) hF a3 a7 (by decide) (by rw [t1]; exact t4.1)
      rw [c1, bd1_s, d2, bd2_s, a4, tx_nI a1, show (0 : Int32) = nI 0 from rfl, b2, bd2_s, (a7.2.2.2.1 f hf).1, t1, t2, t3, min, c3 (4 + i) (by omega), c3 (8 + i) (by omega), c3 12 (by omega), t6, t7]
      exact ⟨_, μ1, ν2, rfl, rfl, Inv_scr (ag_of b1 Sv_SC) (ag_tr c2 (ag_of d1 Pl_SR)) q⟩
    · rw [gc, gr, bd2_s, bd2_s, oel_n, if_pos rfl]
      exact ⟨_, μ, ν, rfl, rfl, q⟩
  · rw [hc, hr, bd2_s, bd2_s, oel_n, if_pos rfl]
    rcases p_fig (F := F) q1 b with ⟨f, hf, rfl, gc, gr⟩ | ⟨gc, gr⟩
    · rw [gc, bd2_s, oel_s]
      exact ⟨_, μ, ν, rfl, rfl, q⟩
    · rw [gc, bd2_s, oel_n]
      exact ⟨_, μ, ν, rfl, rfl, q⟩
theorem p_row {F T S f i : Nat} {X : Xt} {u s : Bool} {μ ν : Mm} (hF : 1000 ≤ F) (q1 : IB T S X u s μ ν) (hf : f < xm X) (hi : 4 ≤ i) (hv : tV (tgC μ i)) : fX3_makes F (9 * T + 4 + f) i (gi μ 3 (9 * T + 4 + f) 0) μ = some (b01 (mkp (xv X f) (xl X f) 0 (tgC μ i)).1, pt μ i (mkp (xv X f) (xl X f) 0 (tgC μ i)).2) := by
  obtain ⟨a1, a2, a3, a4, a5, a6, a7, a8, _⟩ := q1
  obtain ⟨x1, x2⟩ := a3.2.2.1 f hf
  obtain ⟨c1, c2, c3⟩ := a7.2.2.2.1 f hf
  refine p_makes hF x1 ?_ x2 c2 hv
  rw [c1]
  unfold mn
  split <;> rfl
theorem o_after {F : Nat} (hF : 1000 ≤ F) (a b c : Int32) : st2 Inv (fX11_after F a b c) (fX12_after F a b c) := fun u s μ ν q => by
  obtain ⟨T, S, X, e, q1, q2, q3⟩ := id q
  unfold fX11_after fX12_after
  rcases p_sq (F := F) q1 a with ⟨i, hi, rfl, hc, hr⟩ | ⟨hc, hr⟩
  · rw [hc, hr, bd2_s, bd2_s, oel_s, if_neg n1_0]
    rcases p_fig (F := F) q1 b with ⟨f, hf, rfl, gc, gr⟩ | ⟨gc, gr⟩
    · rw [gc, gr, bd2_s, bd2_s, oel_s, if_neg n1_0]
      have a3 := q1.2.2.1
      have h4 := a3.1
      have h5 := a3.2.1
      obtain ⟨t1, t2, t3, t4, t5, t6, t7⟩ := IE_sq q2 hi h4
      by_cases w0 : c.toInt < 0
      · rw [if_pos (i_lt0.mpr w0), p_in0 (x := 0) (y := 1) rfl rfl (by omega), bd2_s, if_pos rfl]
        exact ⟨_, μ, ν, rfl, rfl, q⟩
      · rw [if_neg (fun z => w0 (i_lt0.mp z))]
        by_cases w1 : c.toInt ≤ 1
        · rw [if_pos (show c ≤ 1 from i_le.mpr w1), p_in1 (x := 0) (y := 1) rfl rfl (by omega), bd2_s, if_neg n1_0, if_pos ((nn_inb (by omega)).mpr (by omega)), p_movesOf q1.2.2.2.2.2.1 q1.2.1 a3 q1.2.2.2.2.2.2.2.1 hf, bd2_s, nn_cl (by omega), t5]
          obtain ⟨x1, x2⟩ := a3.2.2.1 f hf
          have hS2 := q1.2.1
          rw [p_calledBy (m := xv X f) (N := xl X f) hF x1 (by omega) q1.2.2.2.2.2.1 x2 (q1.2.2.2.2.2.2.2.1.2.2.2.1 f hf).2 t4.1, bd2_s, p_takeT, bd1_s]
          have hag : ag SC μ (pt μ 4 (tgC μ i)) := ag_pt (fun j => Or.inl ⟨rfl, by omega⟩)
          have q1' := IB_ag (ag_of hag (fun _ _ _ w => Or.inl w)) (ag_rfl (P := DR) (μ := ν)) q1
          have tv := tV_mkp (m := xv X f) (xl X f) 0 (e.1 i).1 (fun j _ hj => x2 j (by omega)) t4.1
          rw [p_row hF q1' hf (by omega) (by rw [tgC_pt, t1]; exact t4.1), bd2_s, tgC_pt, pt_pt, t1]
          have hag2 : ag SC μ (pt μ 4 (mkp (xv X f) (xl X f) 0 (e.1 i).1).2) := ag_pt (fun j => Or.inl ⟨rfl, by omega⟩)
          generalize mkp (xv X f) (xl X f) 0 (e.1 i).1 = R at tv hag2 ⊢
          cases hb : R.1 with
          | false =>
            rw [show b01 false = 0 from rfl, if_pos rfl, show encO R = -1 by unfold encO; rw [if_neg (by rw [hb]; decide)], if_neg (by decide)]
            exact ⟨_, _, ν, rfl, rfl, Inv_scr hag2 ag_rfl q⟩
          | true =>
            rw [show b01 true = 1 from rfl, if_neg (by decide), show encO R = enc R.2 by unfold encO; rw [if_pos hb], if_pos (enc_0le tv), p_over tv, p_under tv, bd2_s, bd2_s]
            by_cases w2 : c = 0
            · rw [if_pos w2, if_pos w2]
              exact ⟨_, _, ν, rfl, by rw [show gi (pt μ 4 R.2) 5 4 0 = R.2.1 from congrArg Prod.fst (tgC_pt (μ := μ) (i := 4) (t := R.2))], Inv_scr hag2 ag_rfl q⟩
            · rw [if_neg w2, if_neg w2]
              exact ⟨_, _, ν, rfl, by rw [show gi (pt μ 4 R.2) 5 4 1 = R.2.2 from congrArg Prod.snd (tgC_pt (μ := μ) (i := 4) (t := R.2))], Inv_scr hag2 ag_rfl q⟩
        · rw [if_neg (fun z => w1 (show c.toInt ≤ 1 from i_le.mp z)), p_in0 (x := 0) (y := 1) rfl rfl (by omega), bd2_s, if_pos rfl]
          exact ⟨_, μ, ν, rfl, rfl, q⟩
    · rw [gc, gr, bd2_s, bd2_s, oel_n, if_pos rfl]
      exact ⟨_, μ, ν, rfl, rfl, q⟩
  · rw [hc, hr, bd2_s, bd2_s, oel_n, if_pos rfl]
    rcases p_fig (F := F) q1 b with ⟨f, hf, rfl, gc, gr⟩ | ⟨gc, gr⟩
    · rw [gc, bd2_s, oel_s]
      exact ⟨_, μ, ν, rfl, rfl, q⟩
    · rw [gc, bd2_s, oel_n]
      exact ⟨_, μ, ν, rfl, rfl, q⟩
/-! things done -/
def Dh (c i j : Nat) : Prop := (c = 92 ∧ i < 40) ∨ (c = 1 ∧ (j = 0 ∨ j = 1))
theorem p_hist {F n : Nat} {e : Es} {μ ν : Mm} (hF : 1000 ≤ F) (hn : n ≤ 4) (hE : IE n e μ ν) (hH : HI n μ ν) : ∃ μ', fX1_remember F μ = some μ' ∧ ag Dh μ μ' ∧ ∀ ν0, ag SR ν ν0 → ∃ ν', fX12_records F ν0 = some ν' ∧ ag Ph ν0 ν' ∧ (∀ z, z < 14 → gi ν' 75 0 z = gi ν0 76 0 z) ∧ ∀ μ2, (∀ c i j, Dh c i j → gi μ2 c i j = gi μ' c i j) → HI n μ2 ν' := by
  obtain ⟨L, nx, hs, b1, b2, b3, b4, b5, b6⟩ := hH
  obtain ⟨μ5, p1, p2, p3⟩ := p_put (F := F) (a := nx) hF hE.1
  have n5 : ∀ c i j, c ≠ 92 → gi μ5 c i j = gi μ c i j := fun c i j h => ag_n p2 (by omega)
  refine ⟨si (si μ5 1 0 1 (nI ((nx + 1) % 40))) 1 0 0 (nI (min 40 (L + 1))), ?_, ?_, fun ν0 h0 => ?_⟩
  · unfold fX1_remember
    rw [b4, if_pos ((nn_inb (by omega)).mpr b2), nn_cl (by omega), p1, bd1_s, n5 1 0 1 (by omega), b4, nn_s, show (40 : Int32) = nI 40 from rfl, nn_irm (by omega) (by omega), gi_si, if_neg (by omega), n5 1 0 0 (by omega), b3, nn_s]
    have e1 : mn (nI 40) (nI (L + 1)) = nI (min 40 (L + 1)) := by
      apply i_eq.mpr
      rw [tz_mn, nI_toInt (by omega), nI_toInt (by omega), nI_toInt (by omega)]
      omega
    rw [e1]
  · refine ag_tr (ag_tr (ag_of p2 (fun c i j w => Or.inl ⟨w.1, by omega⟩)) (ag_si (Or.inr ⟨rfl, Or.inr rfl⟩))) (ag_si (Or.inr ⟨rfl, Or.inl rfl⟩))
  · obtain ⟨ν', r1, r2, r3, r4, r5⟩ := p_records (F := F) (U := L) (ν := ν0) hF b1 ((ag_n h0 (by unfold SR; omega)).trans b5)
    refine ⟨ν', r1, r2, r3, fun μ2 hm => ?_⟩
    have m92 : ∀ a j, a < 40 → a ≠ nx → gi μ2 92 a j = gi μ 92 a j := fun a j g1 g2 => by
      rw [hm 92 a j (Or.inl ⟨rfl, g1⟩), gi_si, if_neg (by omega), gi_si, if_neg (by omega), ag_n p2 (by omega)]
    have mnx : ∀ j, gi μ2 92 nx j = gi μ5 92 nx j := fun j => by
      rw [hm 92 nx j (Or.inl ⟨rfl, b2⟩), gi_si, if_neg (by omega), gi_si, if_neg (by omega)]
    have m1 : gi μ2 1 0 1 = nI ((nx + 1) % 40) := by
      rw [hm 1 0 1 (Or.inr ⟨rfl, Or.inr rfl⟩), gi_si, if_neg (by omega), gi_si, if_pos ⟨rfl, rfl, rfl⟩]
    have m0 : gi μ2 1 0 0 = nI (min 40 (L + 1)) := by
      rw [hm 1 0 0 (Or.inr ⟨rfl, Or.inl rfl⟩), gi_si, if_pos ⟨rfl, rfl, rfl⟩]
    have h79 : ∀ j, gi ν0 79 0 j = gi ν 79 0 j := fun j => ag_n h0 (by unfold SR; omega)
    have h75 : ∀ j, gi ν0 75 0 j = gi ν 75 0 j := fun j => ag_n h0 (by unfold SR; omega)
    by_cases hL : L = 40
    · obtain ⟨s1, s2, s3⟩ := r4 hL
      subst hL
      refine ⟨40, (nx + 1) % 40, fun i => if i < 39 then hs (i + 1) else e, by omega, by omega, m0, m1, s1, fun i hi => ?_⟩
      by_cases h39 : i < 39
      · obtain ⟨c1, c2, c3⟩ := b6 (i + 1) (by omega)
        show EA μ2 _ (if i < 39 then _ else _) ∧ RW _ n (if i < 39 then _ else _) ∧ eG n (if i < 39 then _ else _)
        rw [if_pos h39, show ((nx + 1) % 40 + 40 - 40 + i) % 40 = (nx + 40 - 40 + (i + 1)) % 40 by omega]
        exact ⟨EA_ag (fun j => m92 _ _ (by omega) (by omega)) c1, RW_c hn (fun z hz => (s2 i h39 z hz).trans (h79 _)) c2, c3⟩
      · show EA μ2 _ (if i < 39 then _ else _) ∧ RW _ n (if i < 39 then _ else _) ∧ eG n (if i < 39 then _ else _)
        rw [if_neg h39, show ((nx + 1) % 40 + 40 - 40 + i) % 40 = nx by omega]
        refine ⟨EA_ag mnx p3, RW_c hn (fun z hz => ?_) hE.2.1, hE.2.2⟩
        rw [show i = 39 by omega]
        exact (s3 z hz).trans (h75 z)
    · obtain ⟨s1, s2, s3⟩ := r5 hL
      rw [show min 40 (L + 1) = L + 1 by omega] at m0
      refine ⟨L + 1, (nx + 1) % 40, fun i => if i < L then hs i else e, by omega, by omega, m0, m1, s1, fun i hi => ?_⟩
      by_cases h39 : i < L
      · obtain ⟨c1, c2, c3⟩ := b6 i h39
        show EA μ2 _ (if i < L then _ else _) ∧ RW _ n (if i < L then _ else _) ∧ eG n (if i < L then _ else _)
        rw [if_pos h39, show ((nx + 1) % 40 + 40 - (L + 1) + i) % 40 = (nx + 40 - L + i) % 40 by omega]
        exact ⟨EA_ag (fun j => m92 _ _ (by omega) (by omega)) c1, RW_c hn (fun z hz => (s2 i h39 z hz).trans (h79 _)) c2, c3⟩
      · show EA μ2 _ (if i < L then _ else _) ∧ RW _ n (if i < L then _ else _) ∧ eG n (if i < L then _ else _)
        rw [if_neg h39, show ((nx + 1) % 40 + 40 - (L + 1) + i) % 40 = nx by omega]
        refine ⟨EA_ag mnx p3, RW_c hn (fun z hz => ?_) hE.2.1, hE.2.2⟩
        rw [show i = L by omega]
        exact (s3 z hz).trans (h75 z)
