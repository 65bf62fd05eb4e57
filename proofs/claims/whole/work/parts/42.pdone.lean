/-! PURE: things done
-/
def eSet (e : Es) (i : Nat) (q : Tg × Int32 × Int32) : Es := (fun k => if k = i then q else e.1 k, e.2.1, e.2.2)
theorem eSet_eq {e : Es} {i : Nat} {q : Tg × Int32 × Int32} : (eSet e i q).1 i = q := if_pos rfl
theorem eSet_ne {e : Es} {i k : Nat} {q : Tg × Int32 × Int32} (h : k ≠ i) : (eSet e i q).1 k = e.1 k := if_neg h
theorem eSet_ok {n : Nat} {e : Es} {i : Nat} {q : Tg × Int32 × Int32} (h : eG n e) (hi : i < n) (hq : qOk q) : eG n (eSet e i q) := by
  refine ⟨fun k hk => ?_, fun k h1 h2 => ?_⟩
  · by_cases hki : k = i
    · rw [hki, eSet_eq]
      exact hq
    · rw [eSet_ne hki]
      exact h.1 k hk
  · rw [eSet_ne (by omega)]
    exact h.2 k h1 h2
theorem EC_pq {μ : Mm} {e : Es} {i : Nat} {q : Tg × Int32 × Int32} (h : EC μ e) : EC (pq μ i q) (eSet e i q) := by
  refine ⟨fun k hk => ?_, (pq_gi (by omega)).trans h.2.1, (pq_gi (by omega)).trans h.2.2⟩
  by_cases hki : k = i
  · rw [hki, sqC_pq, eSet_eq]
  · rw [sqC_pq_ne hki, eSet_ne hki]
    exact h.1 k hk
theorem RW_set {f g : Nat → Int32} {n : Nat} {e : Es} {i : Nat} {q : Tg × Int32 × Int32} (hi : i < 4) (h : RW f n e) (h0 : g i = enc q.1) (h4 : g (4 + i) = q.2.1) (h8 : g (8 + i) = q.2.2) (hn : n ≤ 4) (hg : ∀ z, z < 14 → z ≠ i → z ≠ 4 + i → z ≠ 8 + i → g z = f z) : RW g n (eSet e i q) := by
  obtain ⟨r1, r2, r3, r4⟩ := h
  refine ⟨fun k hk => ?_, fun k hk => ?_, ?_, ?_⟩
  · by_cases hki : k = i
    · rw [hki, eSet_eq]
      exact h0
    · rw [eSet_ne hki, hg k (by omega) hki (by omega) (by omega)]
      exact r1 k hk
  · by_cases hki : k = i
    · rw [hki, eSet_eq]
      exact ⟨h4, h8⟩
    · rw [eSet_ne hki, hg _ (by omega) (by omega) (by omega) (by omega), hg _ (by omega) (by omega) (by omega) (by omega)]
      exact r2 k hk
  · rw [hg 12 (by omega) (by omega) (by omega) (by omega)]
    exact r3
  · rw [hg 13 (by omega) (by omega) (by omega) (by omega)]
    exact r4
theorem EC_ag {P : Nat → Nat → Nat → Prop} {μ μ' : Mm} {e : Es} (h : ag P μ μ') (h5 : ∀ i j, i < 4 → ¬ P 5 i j) (h0 : ¬ P 0 0 1 ∧ ¬ P 0 0 2) (q : EC μ e) : EC μ' e :=
  ⟨fun i hi => (sqC_ag h (fun j => h5 i j hi)).trans (q.1 i hi), (ag_n h h0.1).trans q.2.1, (ag_n h h0.2).trans q.2.2⟩
theorem pt_pq {μ : Mm} {i : Nat} {t : Tg} : pt μ i t = pq μ i (t, gi μ 5 i 2, gi μ 5 i 3) := by
  unfold pq
  show pt μ i t = si (si (pt μ i t) 5 i 2 (gi μ 5 i 2)) 5 i 3 (gi μ 5 i 3)
  have e2 : gi μ 5 i 2 = gi (pt μ i t) 5 i 2 := by
    unfold pt
    rw [gi_si, if_neg (by omega), gi_si, if_neg (by omega)]
  rw [e2, si_same]
  have e3 : gi μ 5 i 3 = gi (pt μ i t) 5 i 3 := by
    unfold pt
    rw [gi_si, if_neg (by omega), gi_si, if_neg (by omega)]
  rw [e3, si_same]
theorem SR_DR : ∀ c i j, SR c i j → DR c i j := fun _ _ _ h => Or.inl h
theorem SC_DC : ∀ c i j, SC c i j → DC c i j := fun _ _ _ h => Or.inl h
theorem Dh_DC : ∀ c i j, Dh c i j → DC c i j := fun c i j h => by
  unfold Dh at h
  unfold DC
  omega
theorem Ph_DR : ∀ c i j, Ph c i j → DR c i j := fun c i j h => by
  unfold Ph at h
  unfold DR
  omega
/-- what is written behind remember -/
def Dn (c i j : Nat) : Prop := SC c i j ∨ (c = 5 ∧ i < 4) ∨ (c = 0 ∧ (j = 1 ∨ j = 2))
theorem Dn_DC : ∀ c i j, Dn c i j → DC c i j := fun c i j h => by
  unfold Dn at h
  rcases h with h | h | h
  · exact Or.inl h
  · exact Or.inr (Or.inl h)
  · exact Or.inr (Or.inr (Or.inl h))
/-- a thing done: remember, then the evening e' in the class; in the reference the row is e', then records -/
theorem p_fin {F T S : Nat} {X : Xt} {e : Es} {u s : Bool} {μ ν : Mm} (hF : 1000 ≤ F) (q1 : IB T S X u s μ ν) (q2 : IE (xn X) e μ ν) (q3 : HI (xn X) μ ν) : ∃ μ', fX1_remember F μ = some μ' ∧ ag Dh μ μ' ∧ ∀ (e' : Es) (μ2 ν0 : Mm), ag Dn μ' μ2 → EC μ2 e' → ag SR ν ν0 → RW (gi ν0 76 0) (xn X) e' → eG (xn X) e' → ∃ ν', fX12_records F ν0 = some ν' ∧ Inv u s μ2 ν' ∧ ∀ z, z < 14 → gi ν' 75 0 z = gi ν0 76 0 z := by
  have h4 := q1.2.2.1.1
  obtain ⟨μ', r1, r2, r3⟩ := p_hist (F := F) hF h4 q2 q3
  refine ⟨μ', r1, r2, fun e' μ2 ν0 a1 a2 a3 a4 a5 => ?_⟩
  obtain ⟨ν', b1, b2, b3, b4⟩ := r3 ν0 a3
  refine ⟨ν', b1, ⟨T, S, X, e', IB_ag (ag_tr (ag_of r2 Dh_DC) (ag_of a1 Dn_DC)) (ag_tr (ag_of a3 SR_DR) (ag_of b2 Ph_DR)) q1, ⟨a2, RW_c h4 (fun z hz => b3 z hz) a4, a5⟩, b4 μ2 (fun c i j w => ag_n a1 (by unfold Dh at w; unfold Dn SC; omega))⟩, b3⟩
theorem p_becomes {F T S i : Nat} {X : Xt} {e : Es} {u s : Bool} {μ ν : Mm} {t : Tg} (hF : 1000 ≤ F) (q1 : IB T S X u s μ ν) (q2 : IE (xn X) e μ ν) (q3 : HI (xn X) μ ν) (hi : i < xn X) (ht : tV t) : ∃ μ', fX1_remember F μ = some μ' ∧ ag Dh μ μ' ∧ ∃ ν', fX12_becomes F (nI i) (enc t) ν = some (1, ν') ∧ Inv u s (pt μ' i t) ν' := by
  have h4 := q1.2.2.1.1
  obtain ⟨t1, t2, t3, t4, t5, t6, t7⟩ := IE_sq q2 hi h4
  obtain ⟨μ', r1, r2, r3⟩ := p_fin (F := F) hF q1 q2 q3
  refine ⟨μ', r1, r2, ?_⟩
  obtain ⟨a1, a2, a3, a4, a5, a6, a7, a8, _⟩ := q1
  obtain ⟨ν1, c1, c2, c3, c4⟩ := p_cop (F := F) hF a2 a6 a8
  have m2 : gi μ' 5 i 2 = (e.1 i).2.1 := (ag_n r2 (by unfold Dh; omega)).trans t2
  have m3 : gi μ' 5 i 3 = (e.1 i).2.2 := (ag_n r2 (by unfold Dh; omega)).trans t3
  have hs : ag SR ν (si ν1 76 0 i (enc t)) := ag_tr c2 (ag_si (Or.inr (Or.inr (Or.inl rfl))))
  obtain ⟨ν', b1, b2, b3⟩ := r3 (eSet e i (t, (e.1 i).2.1, (e.1 i).2.2)) (pt μ' i t) (si ν1 76 0 i (enc t)) (ag_pt (fun j => by unfold Dn; omega)) (by
    rw [pt_pq, m2, m3]
    exact EC_pq (EC_ag r2 (fun i j h => by unfold Dh; omega) ⟨by unfold Dh; omega, by unfold Dh; omega⟩ q2.1)) hs (RW_set (by omega) q2.2.1 (by rw [gi_si, if_pos ⟨rfl, rfl, rfl⟩]) (by rw [gi_si, if_neg (by omega), c3 _ (by omega)]; exact t6) (by rw [gi_si, if_neg (by omega), c3 _ (by omega)]; exact t7) h4 (fun z hz g1 g2 g3 => by rw [gi_si, if_neg (by omega)]; exact c3 z hz)) (eSet_ok q2.2.2 hi ⟨ht, t4.2⟩)
  refine ⟨ν', ?_, b2⟩
  unfold fX12_becomes
  rw [c1, bd1_s, if_pos ((nn_inb (by omega)).mpr (by omega)), nn_cl (by omega), b1, bd1_s]
theorem o_let {F : Nat} (hF : 1000 ≤ F) (a : Int32) : st2 Inv (fX11_let F a) (fX12_let F a) := fun u s μ ν q => by
  obtain ⟨T, S, X, e, q1, q2, q3⟩ := id q
  unfold fX11_let fX12_let
  rcases p_sq (F := F) q1 a with ⟨i, hi, rfl, hc, hr⟩ | ⟨hc, hr⟩
  · have h4 := q1.2.2.1.1
    obtain ⟨t1, t2, t3, t4, t5, t6, t7⟩ := IE_sq q2 hi h4
    rw [hc, hr, bd2_s, bd2_s, oel_s, if_neg n1_0, if_pos ((nn_inb (by omega)).mpr (by omega)), nn_cl (by omega), t5]
    unfold fX5_isUndone
    have tl : tV (0, 1) := ⟨by decide, by decide, by decide, by decide, (by unfold gcd1; decide), by decide⟩
    have g0 : gi μ 5 i 0 = (e.1 i).1.1 := congrArg Prod.fst t1
    by_cases hp : (e.1 i).1.1 = 0
    · have e1 : (e.1 i).1 = (0, 1) := Prod.ext hp (i_eq.mpr (tV_p0 t4.1 (i_eq.mp hp)))
      rw [if_pos (g0.trans hp), bd2_s, if_neg n1_0, e1, if_pos (by decide)]
      exact ⟨_, μ, ν, rfl, rfl, q⟩
    · rw [if_neg (by rw [g0]; exact hp), bd2_s, if_pos rfl]
      obtain ⟨μ', r1, r2, ν', b1, b2⟩ := p_becomes (F := F) hF q1 q2 q3 hi tl
      have e3 : ¬ enc (e.1 i).1 = 300 := fun w => hp (congrArg Prod.fst (enc_inj t4.1 tl w))
      rw [if_neg e3, r1, bd1_s, show (300 : Int32) = enc (0, 1) by decide, b1, bd2_s, if_neg n1_0]
      unfold fX5_letGo
      rw [bd1_s]
      exact ⟨1, _, ν', rfl, rfl, b2⟩
  · rw [hc, hr, bd2_s, bd2_s, oel_n, if_pos rfl]
    exact ⟨_, μ, ν, rfl, rfl, q⟩
theorem o_move {F : Nat} (hF : 1000 ≤ F) (a b c : Int32) : st2 Inv (fX11_move F a b c) (fX12_move F a b c) := fun u s μ ν q => by
  obtain ⟨T, S, X, e, q1, q2, q3⟩ := id q
  unfold fX11_move fX12_move
  rcases p_sq (F := F) q1 a with ⟨i, hi, rfl, hc, hr⟩ | ⟨hc, hr⟩
  · have h4 := q1.2.2.1.1
    obtain ⟨t1, t2, t3, t4, t5, t6, t7⟩ := IE_sq q2 hi h4
    rw [hc, hr, bd2_s, bd2_s, oel_s, if_neg n1_0]
    have two : ∀ (m : Mm), ∃ r μ' ν', some ((0 : Int32), m) = some (r, μ') ∧ some ((0 : Int32), ν) = some (r, ν') ∧ (m = μ → Inv u s μ' ν') := fun m => ⟨0, m, ν, rfl, rfl, fun w => by rw [w]; exact q⟩
    have go : mvok (b, c) → ∃ r μ' ν', fX11_move_L41 F b c i μ = some (r, μ') ∧ fX12_move_L34 F (nI i) b c ν = some (r, ν') ∧ Inv u s μ' ν' := fun hw => by
      unfold fX11_move_L41 fX12_move_L34
      rw [p_takeT, bd1_s, if_pos ((nn_inb (by omega)).mpr (by omega)), nn_cl (by omega), t5]
      have e4 : tgC (pt μ 4 (tgC μ i)) 4 = (e.1 i).1 := by rw [tgC_pt, t1]
      have hm := p_makes1 (F := F) (μ := pt μ 4 (tgC μ i)) (i := 4) hw (by rw [e4]; exact t4.1)
      have hr' := p_madeBy (F := F) (ν := ν) hw t4.1
      rw [e4] at hm
      rw [show fX5_makes F 4 b c (pt μ 4 (tgC μ i)) = _ from hm, show fX12_madeBy F (enc (e.1 i).1) b c ν = _ from hr']
      cases hk : mk1 (b, c) (e.1 i).1 with
      | none =>
        show ∃ r μ' ν', (bd2 (some ((0 : Int32), pt μ 4 (tgC μ i))) _) = some (r, μ') ∧ (bd2 (some (-1, ν)) _) = some (r, ν') ∧ _
        rw [bd2_s, bd2_s, if_pos rfl, if_pos (by decide)]
        exact ⟨0, _, ν, rfl, rfl, Inv_scr (ag_pt (fun j => Or.inl ⟨rfl, by omega⟩)) ag_rfl q⟩
      | some w =>
        have tw := tV_mk1 hw t4.1 hk
        show ∃ r μ' ν', (bd2 (some ((1 : Int32), pt (pt μ 4 (tgC μ i)) 4 w)) _) = some (r, μ') ∧ (bd2 (some (enc w, ν)) _) = some (r, ν') ∧ _
        rw [bd2_s, bd2_s, if_neg n1_0, if_neg (enc_nn tw), pt_pt]
        have hag : ag SC μ (pt μ 4 w) := ag_pt (fun j => Or.inl ⟨rfl, by omega⟩)
        obtain ⟨T', S', X', e', p1, p2, p3⟩ := Inv_scr hag (ag_rfl (μ := ν)) q
        have hi' : i < xn X' := by
          have h1 := p1.2.2.2.2.2.2.2.1.1
          have h2 := q1.2.2.2.2.2.2.2.1.1
          have s1 := p1.2.2.2.2.2.1
          have s2 := q1.2.2.2.2.2.1
          have hS : S' = S := by
            have := (nn_inj (by have := p1.2.1; omega) (by have := q1.2.1; omega)).mp (s1.symm.trans s2)
            exact this
          rw [hS] at h1
          have h5 := p1.2.2.1.1
          have := (nn_inj (by omega) (by omega)).mp (h1.symm.trans h2)
          omega
        obtain ⟨μ', r1, r2, ν', b1, b2⟩ := p_becomes (F := F) hF p1 p2 p3 hi' tw
        rw [r1, bd1_s, b1, bd2_s, if_neg n1_0, p_takeT, bd1_s]
        have e5 : tgC μ' 4 = w := by
          have e6 : tgC μ' 4 = tgC (pt μ 4 w) 4 := by
            unfold tgC
            rw [ag_n r2 (by unfold Dh; omega), ag_n r2 (by unfold Dh; omega)]
          rw [e6, tgC_pt]
        rw [e5]
        exact ⟨1, _, ν', rfl, rfl, b2⟩
    by_cases w0 : b.toInt < 0
    · rw [if_pos (i_lt0.mpr w0), p_in0 (x := 0) (y := 2) rfl rfl (by omega), bd2_s, if_pos rfl]
      exact ⟨0, μ, ν, rfl, rfl, q⟩
    · rw [if_neg (fun z => w0 (i_lt0.mp z))]
      by_cases w2 : b.toInt ≤ 2
      · rw [if_pos (show b ≤ 2 from i_le.mpr w2), p_in1 (x := 0) (y := 2) rfl rfl (by omega), bd2_s, if_neg n1_0]
        by_cases b2 : b = 2
        · rw [if_pos b2, if_pos (by rw [b2]; decide)]
          exact go (Or.inl b2)
        · have b3 : b.toInt ≠ 2 := fun z => b2 (i_eq.mpr z)
          have nb : ¬ (2 : Int32) ≤ b := fun z => by
            have z' : (2 : Int32).toInt ≤ b.toInt := i_le.mp z
            rw [show (2 : Int32).toInt = 2 from rfl] at z'
            omega
          rw [if_neg b2, if_neg nb]
          by_cases c1 : c.toInt < 1
          · rw [if_pos (show c < 1 from i_lt.mpr c1), p_in0 (x := 1) (y := 9) rfl rfl (by omega), bd2_s, if_pos rfl]
            exact ⟨0, μ, ν, rfl, rfl, q⟩
          · rw [if_neg (fun z => c1 (show c.toInt < (1 : Int32).toInt from i_lt.mp z))]
            by_cases c9 : c.toInt ≤ 9
            · rw [if_pos (show c ≤ 9 from i_le.mpr c9), p_in1 (x := 1) (y := 9) rfl rfl (by omega), bd2_s, if_neg n1_0]
              exact go (Or.inr ⟨by
                rcases (show b.toInt = 0 ∨ b.toInt = 1 by omega) with z | z
                · exact Or.inl (i_eq.mpr z)
                · exact Or.inr (i_eq.mpr z), by show 1 ≤ c.toInt; omega, c9⟩)
            · rw [if_neg (fun z => c9 (show c.toInt ≤ (9 : Int32).toInt from i_le.mp z)), p_in0 (x := 1) (y := 9) rfl rfl (by omega), bd2_s, if_pos rfl]
              exact ⟨0, μ, ν, rfl, rfl, q⟩
      · rw [if_neg (fun z => w2 (show b.toInt ≤ (2 : Int32).toInt from i_le.mp z)), p_in0 (x := 0) (y := 2) rfl rfl (by omega), bd2_s, if_pos rfl]
        exact ⟨0, μ, ν, rfl, rfl, q⟩
  · rw [hc, hr, bd2_s, bd2_s, oel_n, if_pos rfl]
    exact ⟨_, μ, ν, rfl, rfl, q⟩
/-- what does not matter does not matter, part by part -/
theorem scr3 {T S : Nat} {X : Xt} {e : Es} {u s : Bool} {μ μ' ν ν' : Mm} (h1 : ag SC μ μ') (h2 : ag SR ν ν') (q1 : IB T S X u s μ ν) (q2 : IE (xn X) e μ ν) (q3 : HI (xn X) μ ν) : IB T S X u s μ' ν' ∧ IE (xn X) e μ' ν' ∧ HI (xn X) μ' ν' := by
  have n1 : ∀ {c i j}, ¬ SC c i j → gi μ' c i j = gi μ c i j := fun h => ag_n h1 h
  have n2 : ∀ {c i j}, ¬ SR c i j → gi ν' c i j = gi ν c i j := fun h => ag_n h2 h
  refine ⟨IB_ag (ag_of h1 SC_DC) (ag_of h2 SR_DR) q1, ⟨EC_ag h1 (fun i j h => by unfold SC; omega) ⟨by unfold SC; omega, by unfold SC; omega⟩ q2.1, RW_c q1.2.2.1.1 (fun z _ => n2 (by unfold SR; omega)) q2.2.1, q2.2.2⟩, ?_⟩
  obtain ⟨L, nx, hs, b1, b2, b3, b4, b5, b6⟩ := q3
  refine ⟨L, nx, hs, b1, b2, (n1 (by unfold SC; omega)).trans b3, (n1 (by unfold SC; omega)).trans b4, (n2 (by unfold SR; omega)).trans b5, fun i hi => ?_⟩
  obtain ⟨c1, c2, c3⟩ := b6 i hi
  exact ⟨EA_ag (fun j => n1 (by unfold SC; omega)) c1, RW_c q1.2.2.1.1 (fun z _ => n2 (by unfold SR; omega)) c2, c3⟩
theorem o_call {F : Nat} (hF : 1000 ≤ F) (a b : Int32) : st2 Inv (fX11_call F a b) (fX12_call F a b) := fun u s μ ν q => by
  obtain ⟨T, S, X, e, q1, q2, q3⟩ := id q
  unfold fX11_call fX12_call
  rcases p_sq (F := F) q1 a with ⟨i, hi, rfl, hc, hr⟩ | ⟨hc, hr⟩
  · rw [hc, hr, bd2_s, bd2_s, oel_s, if_neg n1_0]
    rcases p_fig (F := F) q1 b with ⟨f, hf, rfl, gc, gr⟩ | ⟨gc, gr⟩
    · rw [gc, gr, bd2_s, bd2_s, oel_s, if_neg n1_0]
      have h4 := q1.2.2.1.1
      have h5 := q1.2.2.1.2.1
      obtain ⟨t1, t2, t3, t4, t5, t6, t7⟩ := IE_sq q2 hi h4
      obtain ⟨x1, x2⟩ := q1.2.2.1.2.2.1 f hf
      have hag : ag SC μ (pt μ 4 (tgC μ i)) := ag_pt (fun j => Or.inl ⟨rfl, by omega⟩)
      have q1' := IB_ag (ag_of hag SC_DC) (ag_rfl (P := DR) (μ := ν)) q1
      rw [p_takeT, bd1_s, p_row hF q1' hf (by omega) (by rw [tgC_pt, t1]; exact t4.1), bd2_s, tgC_pt, pt_pt, t1]
      -- the reference
      obtain ⟨ν1, c1, c2, c3, c4⟩ := p_cop (F := F) hF q1.2.1 q1.2.2.2.2.2.1 q1.2.2.2.2.2.2.2.1
      have hS1 := live_SR c2 q1.2.2.2.2.2.1
      have hR1 := RT_SR c2 q1.2.2.2.2.2.2.2.1
      obtain ⟨k1, k2⟩ := p_callsR (F := F) (N := xl X f) (q := e.1 i) hF hS1 q1.2.1 q1.2.2.1 hR1 (show i < 4 by omega) hf t4 (Nat.le_refl _) ((c3 i (by omega)).trans t5) ((c3 _ (by omega)).trans t6) ((c3 _ (by omega)).trans t7)
      rw [c1, bd1_s, p_movesOf hS1 q1.2.1 q1.2.2.1 hR1 hf, bd2_s]
      have min : gi ν1 76 0 12 = e.2.1 := (c3 12 (by omega)).trans q2.2.1.2.2.1
      rw [min] at k1
      have tw := tV_mkp (m := xv X f) (xl X f) 0 (e.1 i).1 (fun j _ hj => x2 j (by omega)) t4.1
      have hag2 : ag SC μ (pt μ 4 (mkp (xv X f) (xl X f) 0 (e.1 i).1).2) := ag_pt (fun j => Or.inl ⟨rfl, by omega⟩)
      cases hb : (mkp (xv X f) (xl X f) 0 (e.1 i).1).1 with
      | false =>
        rw [show b01 false = 0 from rfl, if_pos rfl, k2 hb, bd2_s, if_pos rfl]
        exact ⟨_, _, ν1, rfl, rfl, Inv_scr hag2 c2 q⟩
      | true =>
        obtain ⟨ν2, d1, d2⟩ := k1 hb
        rw [show b01 true = 1 from rfl, if_neg n1_0, d2, bd2_s, if_neg n1_0]
        obtain ⟨p1, p2, p3⟩ := scr3 hag2 (ag_rfl (μ := ν)) q1 q2 q3
        obtain ⟨μ', r1, r2, r3⟩ := p_fin (F := F) hF p1 p2 p3
        rw [r1, bd1_s]
        have hb' : ∀ {c k j}, ¬ DC c k j → gi μ' c k j = gi μ c k j := fun h => (ag_n r2 (fun w => h (Dh_DC _ _ _ w))).trans (ag_n hag2 (fun w => h (SC_DC _ _ _ w)))
        have s5 : sqC μ' i = e.1 i := by
          rw [sqC_ag r2 (fun j => by unfold Dh; omega), sqC_ag hag2 (fun j => by unfold SC; omega)]
          exact q2.1.1 i (by omega)
        have hC' : CT μ' T X := CT_ag q1.1 q1.2.2.1 (ag_tr (ag_of hag2 SC_DC) (ag_of r2 Dh_DC)) (fun c i j w z => by unfold Tc at w; unfold DC SC at z; omega) q1.2.2.2.2.2.2.1
        have m0 : gi μ' 0 0 1 = e.2.1 := (ag_n r2 (by unfold Dh; omega)).trans ((ag_n hag2 (by unfold SC; omega)).trans q2.1.2.1)
        obtain ⟨j1, _⟩ := p_callsC (F := F) (T := T) (f := f) (i := i) (N := xl X f) (μ := μ') (s := nI i) (minute := e.2.1) (mv := nI (xl X f)) hF q1.1 q1.2.2.1 hC' hf (by omega) (by rw [show tgC μ' i = (e.1 i).1 from congrArg Prod.fst s5]; exact t4.1) (Nat.le_refl _) (by unfold mn; split <;> rfl)
        rw [show tgC μ' i = (e.1 i).1 from congrArg Prod.fst s5, s5, show gi μ' 5 i 2 = (e.1 i).2.1 from congrArg (fun q => q.2.1) s5, show gi μ' 5 i 3 = (e.1 i).2.2 from congrArg (fun q => q.2.2) s5] at j1
        obtain ⟨μ1, w1, w2⟩ := j1 hb
        rw [hb' (c := 11) (k := 0) (j := 2) (by unfold DC SC; omega), q1.2.2.2.1, tx_nI q1.1, m0, (hC'.2.2.2.1 f hf).1, w2, bd2_s]
        have qn : qOk ((mkp (xv X f) (xl X f) 0 (e.1 i).1).2, mn 999 ((e.1 i).2.1 + tirS X e.2.1 (nI i) f (e.1 i)), (e.1 i).2.2 + 1) := call_ok t4 tw
        generalize hqq : ((mkp (xv X f) (xl X f) 0 (e.1 i).1).2, mn 999 ((e.1 i).2.1 + tirS X e.2.1 (nI i) f (e.1 i)), (e.1 i).2.2 + 1) = qq at qn w2 d2 ⊢
        have n76 : ∀ j, gi ν2 76 0 j = gi ν1 76 0 j := fun j => ag_n d1 (by unfold Pl; omega)
        obtain ⟨ν', b1, b2, b3⟩ := r3 (eSet e i qq) (pq μ1 i qq) (rq ν2 i qq) (ag_tr (ag_of w1 (fun c i j h => Or.inl (Sk_SC c i j h))) (ag_pq (fun j => by unfold Dn; omega))) (EC_pq (EC_ag w1 (fun i j h => by unfold Sk; omega) ⟨by unfold Sk; omega, by unfold Sk; omega⟩ (EC_ag r2 (fun i j h => by unfold Dh; omega) ⟨by unfold Dh; omega, by unfold Dh; omega⟩ p2.1))) (ag_tr c2 (ag_tr (ag_of d1 Pl_SR) (ag_of ag_rq Pm_SR))) (by
          unfold rq
          refine RW_set (f := gi ν1 76 0) (by omega) (RW_c h4 (fun z hz => c3 z hz) q2.2.1) ?_ ?_ ?_ h4 (fun z hz g1 g2 g3 => ?_)
          · rw [gi_si, if_pos ⟨rfl, rfl, rfl⟩]
          · rw [gi_si, if_neg (by omega), gi_si, if_neg (by omega), gi_si, if_pos ⟨rfl, rfl, rfl⟩]
          · rw [gi_si, if_neg (by omega), gi_si, if_pos ⟨rfl, rfl, rfl⟩]
          · rw [gi_si, if_neg (by omega), gi_si, if_neg (by omega), gi_si, if_neg (by omega)]
            exact n76 z) (eSet_ok q2.2.2 hi qn)
        have e9 : sqC (pq μ1 i qq) i = qq := sqC_pq
        have t9 : tgC (pq μ1 i qq) i = qq.1 := congrArg Prod.fst e9
        rw [b1, bd1_s, if_pos ((nn_inb (by omega)).mpr (by omega)), nn_cl (by omega), b3 i (by omega), show gi (rq ν2 i qq) 76 0 i = enc qq.1 by unfold rq; rw [gi_si, if_pos ⟨rfl, rfl, rfl⟩], p_crossR hF qn.1, bd2_s, p_crossC hF (by rw [t9]; exact qn.1), bd2_s, t9]
        exact ⟨_, _, ν', rfl, rfl, b2⟩
    · rw [gc, gr, bd2_s, bd2_s, oel_n, if_pos rfl]
      exact ⟨_, μ, ν, rfl, rfl, q⟩
  · rw [hc, hr, bd2_s, bd2_s, oel_n, if_pos rfl]
    rcases p_fig (F := F) q1 b with ⟨f, hf, rfl, gc, gr⟩ | ⟨gc, gr⟩
    · rw [gc, bd2_s, oel_s]
      exact ⟨_, μ, ν, rfl, rfl, q⟩
    · rw [gc, bd2_s, oel_n]
      exact ⟨_, μ, ν, rfl, rfl, q⟩
