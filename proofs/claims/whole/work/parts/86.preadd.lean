/-! PURE: read, rows; the class -/
def FDb (c _ j : Nat) : Prop := c = 2 ∧ (j = 4 ∨ j = 5)
def FDR (r c i j : Nat) : Prop := FDb c i j ∨ FRw r c i j
def FMv (r c i j : Nat) : Prop := FA c i j ∨ FDR r c i j
theorem p_susC {F : Nat} {D : Int32 × Int32} {k p : Int32} {μ : Mm} (h4 : gi μ 2 0 4 = D.1) (h5 : gi μ 2 0 5 = D.2) : ∃ μ', fX2_suspect F k p μ = some μ' ∧ fr FDb Q7 μ μ' ∧ gj μ' 7 0 5 = gj μ 7 0 5 ∧ gi μ' 2 0 4 = (lm D (k, p)).1 ∧ gi μ' 2 0 5 = (lm D (k, p)).2 := by
  have f : fr FDb Q7 μ (si (si μ 2 0 4 k) 2 0 5 p) := fr_tr (fr_si ⟨rfl, Or.inl rfl⟩) (fr_si ⟨rfl, Or.inr rfl⟩)
  have set : ∃ μ', fX2_suspect_L31 F k p μ = some μ' ∧ fr FDb Q7 μ μ' ∧ gj μ' 7 0 5 = gj μ 7 0 5 ∧ gi μ' 2 0 4 = ((k, p) : Int32 × Int32).1 ∧ gi μ' 2 0 5 = ((k, p) : Int32 × Int32).2 := ⟨_, rfl, f, rfl, by rw [gi_ne (by omega), gi_eq], gi_eq⟩
  have keep : ∃ μ', some μ = some μ' ∧ fr FDb Q7 μ μ' ∧ gj μ' 7 0 5 = gj μ 7 0 5 ∧ gi μ' 2 0 4 = D.1 ∧ gi μ' 2 0 5 = D.2 := ⟨μ, rfl, fr_rfl, rfl, h4, h5⟩
  unfold fX2_suspect lm
  rw [h4, h5]
  by_cases c0 : D.1 = 0
  · rw [if_pos c0, if_pos c0]
    exact set
  · rw [if_neg c0, if_neg c0]
    by_cases c1 : p < D.2
    · rw [if_pos c1, if_pos c1]
      exact set
    · rw [if_neg c1, if_neg c1]
      by_cases c2 : p = D.2
      · rw [if_pos c2, if_pos c2]
        by_cases c3 : D.1 ≤ k
        · rw [if_pos c3, if_pos c3]
          exact keep
        · rw [if_neg c3, if_neg c3]
          exact set
      · rw [if_neg c2, if_neg c2]
        exact keep
theorem LC_FDR {T r N t : Nat} {K : Nat → Tk} {μ μ' : Mm} (h : fr (FDR r) Q7 μ μ') (h7 : gj μ' 7 0 5 = gj μ 7 0 5) (q : LC T K N t μ) : LC T K N t μ' := LC_g h h7 ⟨by unfold FDR FDb FRw; omega, by unfold FDR FDb FRw; omega⟩ (fun j hj => by unfold FDR FDb FRw; omega) (fun c j h1 h2 => by unfold FDR FDb FRw; omega) q
theorem DdC_FDR {T r : Nat} {e : Int32 × Int32} {μ μ' : Mm} (h : fr (FDR r) Q7 μ μ') (q : DdC T e μ) : DdC T e μ' := by
  obtain ⟨P, hP, h5⟩ := q.2.2.2.2
  exact DdC_n h (fun j hj => by unfold FDR FDb FRw; omega) ⟨P, hP, (fr_n h (by unfold FDR FDb FRw; omega)).trans h5⟩ q
theorem p_75 {F r k : Nat} {ms : List (Int32 × Int32)} {v : Int32} {μ : Mm} (hk : 7 ≤ k) (h : RwC μ r ms) (h8 : ms.length < 8) : ∃ μ', fX2_readMove_L75 F r (nI k) v μ = some μ' ∧ fr (FDR r) Q7 μ μ' ∧ gj μ' 7 0 5 = gj μ 7 0 5 ∧ RwC μ' r (ms ++ [(nI (k - 7), v)]) ∧ gi μ' 2 0 4 = gi μ 2 0 4 ∧ gi μ' 2 0 5 = gi μ 2 0 5 := by
  obtain ⟨μ', a1, a2, a3, a4⟩ := p_addRow (F := F) (w := nI (k - 7)) (k := v) h h8
  unfold fX2_readMove_L75
  rw [show (7 : Int32) = nI 7 from rfl, nn_sub hk, a1, bd1_s]
  exact ⟨μ', rfl, fr_of a2 (fun c i j q => Or.inr q) (fun c q => q), a3, a4, fr_n a2 (by unfold FRw; omega), fr_n a2 (by unfold FRw; omega)⟩
/-- a number of a MOVE, maybe WRONG -/
theorem p_mvF {F r k : Nat} {ms : List (Int32 × Int32)} {D : Int32 × Int32} {v p : Int32} {μ : Mm} (hk : 7 ≤ k) (h : RwC μ r ms) (h8 : ms.length < 8) (h4 : gi μ 2 0 4 = D.1) (h5 : gi μ 2 0 5 = D.2) : ∃ μ', (if v < 1 then (fX2_readMove_L68 F r (nI k) v p μ) else (if v ≤ 9 then (fX2_readMove_L75 F r (nI k) v μ) else (fX2_readMove_L68 F r (nI k) v p μ))) = some μ' ∧ fr (FDR r) Q7 μ μ' ∧ gj μ' 7 0 5 = gj μ 7 0 5 ∧ RwC μ' r (ms ++ [(nI (k - 7), v)]) ∧ gi μ' 2 0 4 = (lmW D (if v < 1 ∨ 9 < v then [p] else [])).1 ∧ gi μ' 2 0 5 = (lmW D (if v < 1 ∨ 9 < v then [p] else [])).2 := by
  have bad : v < 1 ∨ 9 < v → ∃ μ', fX2_readMove_L68 F r (nI k) v p μ = some μ' ∧ fr (FDR r) Q7 μ μ' ∧ gj μ' 7 0 5 = gj μ 7 0 5 ∧ RwC μ' r (ms ++ [(nI (k - 7), v)]) ∧ gi μ' 2 0 4 = (lmW D (if v < 1 ∨ 9 < v then [p] else [])).1 ∧ gi μ' 2 0 5 = (lmW D (if v < 1 ∨ 9 < v then [p] else [])).2 := fun q => by
    obtain ⟨μ1, a1, a2, a3, a4, a5⟩ := p_susC (F := F) (k := 5) (p := p) h4 h5
    obtain ⟨μ2, b1, b2, b3, b4, b5, b6⟩ := p_75 (F := F) (v := v) hk (RwC_fr a2 (fun c j hc => by unfold FDb; omega) h) h8
    unfold fX2_readMove_L68
    rw [a1, bd1_s, if_pos q]
    exact ⟨μ2, b1, fr_tr (fr_of a2 (fun c i j q => Or.inl q) (fun c q => q)) b2, b3.trans a3, b4, b5.trans a4, b6.trans a5⟩
  by_cases c1 : v < 1
  · rw [if_pos c1]
    exact bad (Or.inl c1)
  · rw [if_neg c1]
    by_cases c2 : v ≤ 9
    · obtain ⟨μ2, b1, b2, b3, b4, b5, b6⟩ := p_75 (F := F) (v := v) hk h h8
      rw [if_pos c2, if_neg (c := v < 1 ∨ 9 < v) (fun q => by
        rcases q with q | q
        · exact c1 q
        · rw [i_le] at c2
          rw [i_lt] at q
          omega)]
      exact ⟨μ2, b1, b2, b3, b4, b5.trans h4, b6.trans h5⟩
    · rw [if_neg c2]
      exact bad (Or.inr (by rw [i_le] at c2; rw [i_lt]; omega))
theorem p_isMv {F k : Nat} {μ : Mm} (hk : k < 2147483648) : fX2_isMove F (nI k) μ = some (if 7 ≤ k ∧ k ≤ 9 then 1 else 0, μ) := by
  unfold fX2_isMove
  by_cases y7 : k < 7
  · rw [if_pos (by rw [show (7 : Int32) = nI 7 from rfl, nn_lt hk (by omega)]; exact y7), if_neg (c := 7 ≤ k ∧ k ≤ 9) (by omega)]
  · rw [if_neg (by rw [show (7 : Int32) = nI 7 from rfl, nn_lt hk (by omega)]; exact y7)]
    by_cases y9 : 9 < k
    · rw [if_pos (by rw [show (9 : Int32) = nI 9 from rfl, nn_lt (by omega) hk]; exact y9), if_neg (c := 7 ≤ k ∧ k ≤ 9) (by omega)]
    · rw [if_neg (by rw [show (9 : Int32) = nI 9 from rfl, nn_lt (by omega) hk]; exact y9), if_pos (c := 7 ≤ k ∧ k ≤ 9) (by omega)]
theorem p_79d {F T r : Nat} {e : Int32 × Int32} {v1 v3 : Int32} {v4 : Int64} {μ : Mm} (h : DdC T e μ) : fX2_readRowS_L79 F v1 r v3 v4 μ = some μ := by
  unfold fX2_readRowS_L79
  rw [p_takeCd h, bd1_s, if_neg (dead_n h)]
theorem p_41d {F T r m : Nat} {e : Int32 × Int32} {v1 v3 v6 : Int32} {v4 : Int64} {μ : Mm} (h : DdC T e μ) : fX2_readRowS_L41 F (m + 1) v1 r v3 v4 v6 μ = some μ := by
  rw [fX2_readRowS_L41, if_neg (c := gi μ 2 0 0 = 0) (dead_n h), p_79d h]
  split <;> rfl
def MVC (F T : Nat) (K : Nat → Tk) (N r : Nat) (v1 v3 : Int32) (v4 : Int64) (ms : List (Int32 × Int32)) (D : Int32 × Int32) (z : Sum (Int32 × Int32) (Nat × List (Int32 × Int32) × List Int32)) (o : Option Mm) (μ' : Mm) : Prop := match z with
  | Sum.inl e => o = some μ' ∧ DdC T e μ'
  | Sum.inr s => o = fX2_readRowS_L79 F v1 r v3 v4 μ' ∧ LC T K N s.1 μ' ∧ RwC μ' r (ms ++ s.2.1) ∧ gi μ' 2 0 4 = (lmW D s.2.2).1 ∧ gi μ' 2 0 5 = (lmW D s.2.2).2
theorem MVC_s {F T N r : Nat} {K : Nat → Tk} {v1 v3 : Int32} {v4 : Int64} {ms : List (Int32 × Int32)} {D : Int32 × Int32} {w : Int32 × Int32} {ws : List Int32} {z : Sum (Int32 × Int32) (Nat × List (Int32 × Int32) × List Int32)} {o : Option Mm} {μ' : Mm} (h : MVC F T K N r v1 v3 v4 (ms ++ [w]) (lmW D ws) z o μ') : MVC F T K N r v1 v3 v4 ms D (sbd z fun s => Sum.inr (s.1, w :: s.2.1, ws ++ s.2.2)) o μ' := by
  match z, h with
  | Sum.inl e, h => exact h
  | Sum.inr s, h =>
    obtain ⟨a1, a2, a3, a4, a5⟩ := h
    refine ⟨a1, a2, ?_, ?_, ?_⟩
    · show RwC μ' r (ms ++ w :: s.2.1)
      rw [List.append_assoc] at a3
      exact a3
    · show _ = (lmW D (ws ++ s.2.2)).1
      unfold lmW at a4 ⊢
      rw [List.foldl_append]
      exact a4
    · show _ = (lmW D (ws ++ s.2.2)).2
      unfold lmW at a5 ⊢
      rw [List.foldl_append]
      exact a5
theorem p_mvC {F T N P r : Nat} {K : Nat → Tk} {v1 v3 : Int32} {v4 : Int64} (g : Gk K N) (hP : P ≤ 408) : ∀ (n t m : Nat) (ms : List (Int32 × Int32)) (D : Int32 × Int32) (μ : Mm), ms.length + n = 8 → n + 1 < m → LC T K N t μ → RwC μ r ms → gi μ 2 0 4 = D.1 → gi μ 2 0 5 = D.2 → gi μ 8 T 5 = nI P → ∃ μ', fr (FMv r) Q7 μ μ' ∧ MVC F T K N r v1 v3 v4 ms D (mvg K n t) (fX2_readRowS_L41 F m v1 r v3 v4 (nI ms.length) μ) μ'
  | n, t, 0, ms, D, μ, _, h, _, _, _, _, _ => absurd h (Nat.not_lt_zero _)
  | 0, t, m + 1, ms, D, μ, hn, hm, hl, hr, h4, h5, h8 => by
    obtain ⟨m, rfl⟩ : ∃ x, m = x + 1 := ⟨m - 1, by omega⟩
    have k34 := g.2.1 t
    have k7 : gi μ 7 0 2 = nI (tkd K t) := hl.2.2.2.1.2.1
    have kb : tkd K t < 2147483648 := by unfold tkd; omega
    rw [fX2_readRowS_L41, if_neg (by rw [show (8 : Int32) = nI 8 from rfl, nn_lt (by omega) (by omega)]; omega), if_pos hl.1, k7, p_isMv kb, bd2_s]
    unfold mvg
    by_cases y : 7 ≤ tkd K t ∧ tkd K t ≤ 9
    · simp only [if_pos y]
      rw [if_neg n1_0]
      obtain ⟨μ1, a1, a2, a3⟩ := p_failC (F := F) (f := 2) hl.1 hl.2.1 (Or.inr rfl) hP h8
      rw [hl.2.2.2.1.2.2.1] at a3
      unfold fX2_readMove fX3_isFull
      rw [hr.1, if_neg (by rw [show (8 : Int32) = nI 8 from rfl, nn_lt (by omega) (by omega)]; omega), bd2_s, if_neg n1_0, a1, bd1_s, bd1_s, p_41d a3]
      exact ⟨μ1, fr_of a2 (fun c i j q => Or.inl q) (fun c q => q), rfl, a3⟩
    · simp only [if_neg y]
      rw [if_pos trivial]
      exact ⟨μ, fr_rfl, rfl, hl, by rw [List.append_nil]; exact hr, h4, h5⟩
  | n + 1, t, m + 1, ms, D, μ, hn, hm, hl, hr, h4, h5, h8 => by
    obtain ⟨m, rfl⟩ : ∃ x, m = x + 1 := ⟨m - 1, by omega⟩
    have k34 := g.2.1 t
    have k7 : gi μ 7 0 2 = nI (tkd K t) := hl.2.2.2.1.2.1
    have kb : tkd K t < 2147483648 := by unfold tkd; omega
    rw [fX2_readRowS_L41, if_neg (by rw [show (8 : Int32) = nI 8 from rfl, nn_lt (by omega) (by omega)]; omega), if_pos hl.1, k7, p_isMv kb, bd2_s]
    unfold mvg
    by_cases y : 7 ≤ tkd K t ∧ tkd K t ≤ 9
    · simp only [if_pos y]
      rw [if_neg n1_0]
      obtain ⟨μ1, a1, a2, a3⟩ := p_takeC (F := F) (k := tkd K t) g hl (by omega) hP h8
      have f1 : fr (FMv r) Q7 μ μ1 := fr_of a2 (fun c i j q => Or.inl q) (fun c q => q)
      have r1 := RwC_fr a2 (fun c j hc => by unfold FA; omega) hr
      have e4 : gi μ1 2 0 4 = D.1 := (fr_n a2 (by unfold FA; omega)).trans h4
      have e5 : gi μ1 2 0 5 = D.2 := (fr_n a2 (by unfold FA; omega)).trans h5
      have e8 : gi μ1 8 T 5 = nI P := (fr_n a2 (by unfold FA; omega)).trans h8
      unfold fX2_readMove fX3_isFull
      rw [hr.1, if_pos (by rw [show (8 : Int32) = nI 8 from rfl, nn_lt (by omega) (by omega)]; omega), bd2_s, if_pos rfl, k7, a1, bd1_s]
      by_cases k9 : tkd K t = 9
      · obtain ⟨μ2, b1, b2, b3, b4, b5, b6⟩ := p_75 (F := F) (v := 0) y.1 r1 (show ms.length < 8 by omega)
        rw [if_pos (by rw [k9]; rfl), b1, bd1_s, nn_s]
        have b4' : RwC μ2 r (ms ++ [(2, 0)]) := by
          rw [k9] at b4
          exact b4
        cases h1 : adv K t (tkd K t) with
        | inl e =>
          rw [h1] at a3
          have d2 := DdC_FDR b2 a3
          rw [p_41d d2]
          exact ⟨μ2, fr_tr f1 (fr_of b2 (fun c i j q => Or.inr q) (fun c q => q)), rfl, d2⟩
        | inr t1 =>
          rw [h1] at a3
          rw [sbd_r, if_pos k9]
          obtain ⟨μ', c1, c2⟩ := p_mvC (F := F) (v1 := v1) (v3 := v3) (v4 := v4) g hP n t1 (m + 1) (ms ++ [(2, 0)]) D μ2 (by rw [List.length_append, List.length_singleton]; omega) (by omega) (LC_FDR b2 b3 a3) b4' (b5.trans e4) (b6.trans e5) ((fr_n b2 (by unfold FDR FDb FRw; omega)).trans e8)
          rw [List.length_append, List.length_singleton] at c2
          exact ⟨μ', fr_tr (fr_tr f1 (fr_of b2 (fun c i j q => Or.inr q) (fun c q => q))) c1, MVC_s (ws := []) c2⟩
      · rw [if_neg (show ¬ nI (tkd K t) = 9 by rw [show (9 : Int32) = nI 9 from rfl, nn_inj kb (by omega)]; exact k9)]
        cases h1 : adv K t (tkd K t) with
        | inl e =>
          rw [h1] at a3
          obtain ⟨μ2, b1, b2, b3, b4, b5, b6⟩ := p_mvF (F := F) (v := gi μ1 7 0 4) (p := gi μ1 7 0 3) y.1 r1 (show ms.length < 8 by omega) e4 e5
          have d2 := DdC_FDR b2 a3
          rw [p_takeCd a3, bd1_s, b1, bd1_s, p_41d d2]
          exact ⟨μ2, fr_tr f1 (fr_of b2 (fun c i j q => Or.inr q) (fun c q => q)), rfl, d2⟩
        | inr t1 =>
          rw [h1] at a3
          obtain ⟨μ3, q1, q2, q3⟩ := p_takeC (F := F) (k := 23) g a3 (by omega) hP e8
          have f3 : fr (FMv r) Q7 μ μ3 := fr_tr f1 (fr_of q2 (fun c i j q => Or.inl q) (fun c q => q))
          obtain ⟨μ2, b1, b2, b3, b4, b5, b6⟩ := p_mvF (F := F) (v := gi μ1 7 0 4) (p := gi μ1 7 0 3) y.1 (RwC_fr q2 (fun c j hc => by unfold FA; omega) r1) (show ms.length < 8 by omega) ((fr_n q2 (by unfold FA; omega)).trans e4) ((fr_n q2 (by unfold FA; omega)).trans e5)
          have f2 : fr (FMv r) Q7 μ μ2 := fr_tr f3 (fr_of b2 (fun c i j q => Or.inr q) (fun c q => q))
          rw [show (23 : Int32) = nI 23 from rfl, q1, bd1_s, b1, bd1_s, sbd_r, if_neg k9]
          cases h2 : adv K t1 23 with
          | inl e =>
            rw [h2] at q3
            have d2 := DdC_FDR b2 q3
            rw [p_41d d2]
            exact ⟨μ2, f2, rfl, d2⟩
          | inr t2 =>
            rw [h2] at q3
            obtain ⟨_, _, k23⟩ := adv_r h2
            have ev : gi μ1 7 0 4 = (K t1).2.2.1 := a3.2.2.2.1.2.2.2.1 k23
            have ep : gi μ1 7 0 3 = pl K t1 := a3.2.2.2.1.2.2.1
            rw [ev, ep] at b5 b6
            rw [ev] at b4
            rw [sbd_r, nn_s]
            obtain ⟨μ', c1, c2⟩ := p_mvC (F := F) (v1 := v1) (v3 := v3) (v4 := v4) g hP n t2 (m + 1) (ms ++ [(nI (tkd K t - 7), (K t1).2.2.1)]) _ μ2 (by rw [List.length_append, List.length_singleton]; omega) (by omega) (LC_FDR b2 b3 q3) b4 b5 b6 ((fr_n b2 (by unfold FDR FDb FRw; omega)).trans ((fr_n q2 (by unfold FA; omega)).trans e8))
            rw [List.length_append, List.length_singleton] at c2
            have c3 := MVC_s c2
            refine ⟨μ', fr_tr f2 c1, ?_⟩
            have ee : (fun s : Nat × List (Int32 × Int32) × List Int32 => (Sum.inr (s.1, (nI (tkd K t - 7), (K t1).2.2.1) :: s.2.1, (if (K t1).2.2.1 < 1 ∨ 9 < (K t1).2.2.1 then [pl K t1] else []) ++ s.2.2) : Sum (Int32 × Int32) (Nat × List (Int32 × Int32) × List Int32))) = fun r => Sum.inr (r.1, (nI (tkd K t - 7), (K t1).2.2.1) :: r.2.1, (if (K t1).2.2.1 < 1 ∨ 9 < (K t1).2.2.1 then pl K t1 :: r.2.2 else r.2.2)) := funext fun s => by
              split <;> rfl
            rw [ee] at c3
            exact c3
    · simp only [if_neg y]
      rw [if_pos trivial]
      exact ⟨μ, fr_rfl, rfl, hl, by rw [List.append_nil]; exact hr, h4, h5⟩
