theorem relS_l {s : Bool} : ∀ (W : List Nat) (out : List Int32), (relS s W out).2.length + (relS s W out).1.length = out.length + W.length
  | [], out => rfl
  | w :: W, out => by
    unfold relS
    by_cases y : w = 31 ∨ (s = true ∧ w < 28)
    · rw [if_pos y]
    · rw [if_neg y, relS_l W]
      simp only [List.length_append, List.length_cons, List.length_nil]
      omega
theorem relS_m {s : Bool} : ∀ (W : List Nat) (out : List Int32), (relS s W out).1.length ≤ W.length
  | [], out => Nat.le_refl _
  | w :: W, out => by
    unfold relS
    by_cases y : w = 31 ∨ (s = true ∧ w < 28)
    · rw [if_pos y]
      exact Nat.le_refl _
    · rw [if_neg y]
      have := relS_m (s := s) W (out ++ [scd w])
      rw [List.length_cons]
      omega
/-- a fault was found: nothing more is read -/
theorem p_ddC {F T P o m : Nat} {e : Int32 × Int32} {W : List Nat} {out : List Int32} {μ : Mm} {v1 v2 : Int32} (hF : 1000 ≤ F) (hT : T < 2) (hw : ∀ w ∈ W, 26 ≤ w ∧ w ≤ 31 ∧ w ≠ 30) (h32 : W.length ≤ 32) (hP : P + out.length + W.length ≤ 408) (h : XC T P W o out μ) (hd : DdC T e μ) : ∃ μ', fX2_readSum_L14 F (m + 1) v1 v2 μ = some μ' ∧ KpC T P μ μ' ∧ DdC T e μ' := by
  have go : ∃ μ', fX2_readSum_L153 F μ = some μ' ∧ KpC T P μ μ' ∧ DdC T e μ' := by
    obtain ⟨μ', r1, r2, r3, r4, r5⟩ := p_relX (F := F) (lvl := 26) (s := false) hF hT (Or.inr ⟨rfl, rfl⟩) hw h32 hP h
    have e3 := (relS_l W out (s := false))
    unfold fX2_readSum_L153
    rw [show (26 : Int32) = nI 26 from rfl, r1, bd1_s]
    exact ⟨μ', rfl, KpC_FL r2 r4, DdC_n r2 (fun j hj => by unfold FL; omega) ⟨_, by omega, r5.2.2.2.2.1⟩ hd⟩
  rw [fX2_readSum_L14]
  by_cases y : 400 < v2
  · rw [if_pos y]
    exact go
  · rw [if_neg y, if_neg (dead_n hd)]
    exact go
def EXC (T : Nat) (K : Nat → Tk) (N P : Nat) (r : Sum (Int32 × Int32) (Nat × List Int32)) (μ : Mm) : Prop := match r with
  | Sum.inl e => DdC T e μ
  | Sum.inr x => LC T K N x.1 μ ∧ gi μ 8 T 5 = nI (P + x.2.length) ∧ seg μ 37 T P x.2
def dI (b : Bool) : Int32 := if b = true then 1 else 0
theorem p_exC {F T N P t0 : Nat} {K : Nat → Tk} (hF : 1000 ≤ F) (hT : T < 2) (g : Gk K N) (hP : P ≤ 7 + t0) : ∀ (n t : Nat) (due : Bool) (W : List Nat) (o : Nat) (out : List Int32) (m i : Nat) (μ : Mm), Xi t0 t due W o out → 400 - t < n → LC T K N t μ → XC T P W o out μ → i ≤ t → 402 - t < m → ∃ μ', fX2_readSum_L14 F m (dI due) (nI i) μ = some μ' ∧ KpC T P μ μ' ∧ EXC T K N P (exg K n t due W o out) μ'
  | 0, _, _, _, _, _, _, _, _, _, h, _, _, _, _ => absurd h (Nat.not_lt_zero _)
  | n + 1, t, true, W, o, out, m, i, μ, hx, hn, hl, hc, hi, hm => by
    have tN := hl.2.2.2.2
    have hN := g.1.1
    obtain ⟨m, rfl⟩ : ∃ x, m = x + 2 := ⟨m - 2, by omega⟩
    have k34 := g.2.1 t
    have wk := Wf_k o W hx.1
    have wb := Wf_b o W hx.1
    have o6 := hx.2.1
    have len := hx.2.2.2.2
    have k7 : gi μ 7 0 2 = nI (tkd K t) := hl.2.2.2.1.2.1
    have k0 : gi μ 2 0 0 = 0 := hl.1
    have q3 : gi μ 2 0 3 = nI T := hl.2.1
    have h5 : gi μ 8 T 5 = nI (P + out.length) := hc.2.2.2.2.1
    rw [fX2_readSum_L14, if_neg (by rw [show (400 : Int32) = nI 400 from rfl, nn_lt (by omega) (by omega)]; omega), if_pos k0, show dI true = 1 from rfl, if_neg n1_0, k7]
    unfold exg
    by_cases k31 : tkd K t = 31
    · rw [k31, if_pos (show nI 31 = 31 from rfl), if_pos rfl]
      unfold fX2_readSum_L51 fX2_readUnit
      rw [if_pos (show nI 31 = 31 from rfl), hc.2.2.1]
      by_cases o66 : o = 6
      · rw [if_pos (by rw [o66]; rfl), if_pos o66]
        obtain ⟨μ1, a1, a2, a3⟩ := p_failC (F := F) (f := 2) k0 q3 (Or.inr rfl) (by omega) h5
        rw [hl.2.2.2.1.2.2.1] at a3
        obtain ⟨μ', b1, b2, b3⟩ := p_ddC (F := F) (m := m) (v1 := 1) (v2 := nI i + 1) hF hT wk (by omega) (by omega) (XC_FA a2 hc) a3
        rw [a1, bd1_s, bd1_s]
        unfold fX2_readSum_L147
        exact ⟨μ', b1, KpC_tr (KpC_FA a2) b2, b3⟩
      · rw [if_neg (show ¬ nI o = 6 by rw [show (6 : Int32) = nI 6 from rfl, nn_inj (by omega) (by omega)]; exact o66), if_neg o66]
        obtain ⟨μ1, a1, a2, a3⟩ := p_takeC (F := F) (k := 31) g hl (by omega) (by omega) h5
        obtain ⟨μ2, b1, b2, b3, b4⟩ := p_addW (F := F) (k := 31) (by omega) (XC_FA a2 hc)
        have f3 : fr FW Q7 μ2 (si μ2 2 0 8 (nI (o + 1))) := fr_si (Or.inr ⟨rfl, Or.inr rfl⟩)
        have x3 : XC T P (31 :: W) (o + 1) out (si μ2 2 0 8 (nI (o + 1))) := by
          obtain ⟨c1, c2, c3, c4, c5, c6⟩ := b4
          exact ⟨(gi_ne (by omega)).trans c1, fun k hk => (gi_ne (by omega)).trans (c2 k hk), gi_eq, (gi_ne (by omega)).trans c4, (gi_ne (by omega)).trans c5, fun k hk => (gi_ne (by omega)).trans (c6 k hk)⟩
        have kp : KpC T P μ (si μ2 2 0 8 (nI (o + 1))) := KpC_tr (KpC_tr (KpC_FA a2) (KpC_FW b2)) (KpC_FW f3)
        rw [a1, bd1_s, show (nI 31 : Int32) = nI 31 from rfl, b1, bd1_s, b4.2.2.1, nn_s, bd1_s]
        unfold fX2_readSum_L147
        unfold adv at a3
        rw [if_pos k31] at a3
        by_cases z : t = 400
        · rw [if_pos z] at a3 ⊢
          have d3 : DdC T (2, pl K t) (si μ2 2 0 8 (nI (o + 1))) := DdC_n f3 (fun j hj => by unfold FW; omega) ⟨_, by omega, x3.2.2.2.2.1⟩ (DdC_n b2 (fun j hj => by unfold FW; omega) ⟨_, by omega, b4.2.2.2.2.1⟩ a3)
          obtain ⟨μ', e1, e2, e3⟩ := p_ddC (F := F) (m := m) (v1 := 1) (v2 := nI i + 1) hF hT (W := 31 :: W) (fun w hw => by
            rcases List.mem_cons.mp hw with q | q
            · omega
            · exact wk w q) (by rw [List.length_cons]; omega) (by rw [List.length_cons]; omega) x3 d3
          exact ⟨μ', e1, KpC_tr kp e2, e3⟩
        · rw [if_neg z] at a3 ⊢
          rw [nn_s]
          obtain ⟨μ', e1, e2, e3⟩ := p_exC hF hT g hP n (t + 1) true (31 :: W) (o + 1) out (m + 1) (i + 1) _ (Xi_open hx o66) (by omega) (LC_FW f3 rfl (LC_FW b2 b3 a3)) x3 (by omega) (by omega)
          exact ⟨μ', e1, KpC_tr kp e2, e3⟩
    rw [if_neg (show ¬ nI (tkd K t) = 31 by rw [show (31 : Int32) = nI 31 from rfl, nn_inj (by unfold tkd; omega) (by omega)]; exact k31), if_neg k31]
    unfold fX2_readSum_L51 fX2_readUnit
    rw [if_neg (show ¬ nI (tkd K t) = 31 by rw [show (31 : Int32) = nI 31 from rfl, nn_inj (by unfold tkd; omega) (by omega)]; exact k31)]
    -- a code is added, one TOKEN is taken
    have unit : ∀ (k : Nat) (c : Int32), k ≤ 32 → (∀ t', adv K t k = Sum.inr t' → -10 < c.toInt) → ∃ μ', (bd1 (bd1 (fX8_addCode F T c μ) fun μ14 => bd1 (fX2_take F (nI k) μ14) fun μ17 => some μ17) fun μ29 => fX2_readSum_L147 F (fun v1 v2 μ => fX2_readSum_L14 F (m + 1) v1 v2 μ) 0 (nI i) μ29) = some μ' ∧ KpC T P μ μ' ∧ EXC T K N P (match adv K t k with
        | Sum.inl e => Sum.inl e
        | Sum.inr t' => exg K n t' false W o (out ++ [c])) μ' := fun k c hk hcc => by
      rw [p_addC h5 (by omega), bd1_s]
      have f1 : fr (FL T) Q7 μ (si (si μ 37 T (P + out.length) c) 8 T 5 (nI (P + out.length + 1))) := fr_tr (fr_si (Or.inr (Or.inl ⟨rfl, rfl⟩))) (fr_si (Or.inr (Or.inr ⟨rfl, rfl, rfl⟩)))
      have x1 : XC T P W o (out ++ [c]) (si (si μ 37 T (P + out.length) c) 8 T 5 (nI (P + out.length + 1))) := by
        obtain ⟨c1, c2, c3, c4, c5, c6⟩ := hc
        refine ⟨(gi_ne (by omega)).trans ((gi_ne (by omega)).trans c1), fun k hk => (fr_n f1 (by unfold FL; omega)).trans (c2 k hk), (fr_n f1 (by unfold FL; omega)).trans c3, (fr_n f1 (by unfold FL; omega)).trans c4, ?_, ?_⟩
        · rw [gi_eq, List.length_append, List.length_singleton, Nat.add_assoc]
        · rw [seg_app]
          refine ⟨fun k hk => ?_, fun k hk => ?_⟩
          · rw [gi_ne (by omega), gi_ne (by omega)]
            exact c6 k hk
          · simp only [List.length_singleton] at hk
            obtain rfl : k = 0 := by omega
            rw [gi_ne (by omega), Nat.add_zero, gi_eq]
            rfl
      have kp1 : KpC T P μ (si (si μ 37 T (P + out.length) c) 8 T 5 (nI (P + out.length + 1))) := KpC_FL f1 (fun j hj => (gi_ne (by omega)).trans (gi_ne (by omega)))
      have l1 := LC_FL f1 rfl hl
      obtain ⟨μ1, a1, a2, a3⟩ := p_takeC (F := F) (k := k) g l1 hk (by omega) gi_eq
      have x2 := XC_FA a2 x1
      rw [a1, bd1_s, bd1_s]
      unfold fX2_readSum_L147
      cases ha : adv K t k with
      | inl e =>
        rw [ha] at a3
        obtain ⟨μ', e1, e2, e3⟩ := p_ddC (F := F) (m := m) (v1 := 0) (v2 := nI i + 1) hF hT wk (by omega) (by rw [List.length_append, List.length_singleton]; omega) x2 a3
        exact ⟨μ', e1, KpC_tr (KpC_tr kp1 (KpC_FA a2)) e2, e3⟩
      | inr t' =>
        rw [ha] at a3
        have ht' : t' = t + 1 ∧ t ≠ 400 := by
          unfold adv at ha
          split at ha
          · split at ha
            · cases ha
            · rename_i z
              injection ha with ha
              exact ⟨ha.symm, z⟩
          · cases ha
        obtain ⟨rfl, z⟩ := ht'
        rw [nn_s]
        obtain ⟨μ', e1, e2, e3⟩ := p_exC hF hT g hP n (t + 1) false W o (out ++ [c]) (m + 1) (i + 1) _ (Xi_unit hx (hcc _ ha)) (by omega) a3 x2 (by omega) (by omega)
        exact ⟨μ', e1, KpC_tr (KpC_tr kp1 (KpC_FA a2)) e2, e3⟩
    by_cases kv : 13 ≤ tkd K t ∧ tkd K t ≤ 21
    · rw [if_neg (show ¬ nI (tkd K t) < 13 by rw [show (13 : Int32) = nI 13 from rfl, nn_lt (by omega) (by omega)]; omega), if_neg (show ¬ 21 < nI (tkd K t) by rw [show (21 : Int32) = nI 21 from rfl, nn_lt (by omega) (by omega)]; omega), q3, tx_nI hT, if_pos kv]
      obtain ⟨μ', r1, r2, r3⟩ := unit (tkd K t) ((-1) - (nI (tkd K t) - 13)) (by omega) (fun _ _ => (var_c kv.1 kv.2).2.1)
      refine ⟨μ', r1, r2, ?_⟩
      unfold adv at r3
      rw [if_pos rfl] at r3
      by_cases z : t = 400
      · rw [if_pos z] at r3 ⊢
        exact r3
      · rw [if_neg z] at r3 ⊢
        exact r3
    rw [if_neg kv]
    have u77 : ∃ μ', (bd1 (fX2_readUnit_L77 F μ) fun μ29 => fX2_readSum_L147 F (fun v1 v2 μ => fX2_readSum_L14 F (m + 1) v1 v2 μ) 0 (nI i) μ29) = some μ' ∧ KpC T P μ μ' ∧ EXC T K N P (if tkd K t = 23 then if t = 400 then Sum.inl (2, pl K t) else exg K n (t + 1) false W o (out ++ [(K t).2.2.1]) else Sum.inl (1, pl K t)) μ' := by
      unfold fX2_readUnit_L77
      rw [q3, tx_nI hT]
      obtain ⟨μ', r1, r2, r3⟩ := unit 23 (gi μ 7 0 4) (by omega) (fun t' ha => by
        unfold adv at ha
        split at ha
        · rename_i y
          obtain ⟨v, hv, ev⟩ := g.2.2 t y
          rw [hl.2.2.2.1.2.2.2.1 y, ev, nI_toInt (by omega)]
          omega
        · cases ha)
      refine ⟨μ', r1, r2, ?_⟩
      unfold adv at r3
      by_cases y : tkd K t = 23
      · rw [if_pos y] at r3 ⊢
        rw [hl.2.2.2.1.2.2.2.1 y] at r3
        by_cases z : t = 400
        · rw [if_pos z] at r3 ⊢
          exact r3
        · rw [if_neg z] at r3 ⊢
          exact r3
      · rw [if_neg y] at r3 ⊢
        exact r3
    by_cases k13 : tkd K t < 13
    · rw [if_pos (show nI (tkd K t) < 13 by rw [show (13 : Int32) = nI 13 from rfl, nn_lt (by omega) (by omega)]; exact k13)]
      exact u77
    · rw [if_neg (show ¬ nI (tkd K t) < 13 by rw [show (13 : Int32) = nI 13 from rfl, nn_lt (by unfold tkd; omega) (by omega)]; exact k13), if_pos (show 21 < nI (tkd K t) by rw [show (21 : Int32) = nI 21 from rfl, nn_lt (by omega) (by unfold tkd; omega)]; omega)]
      exact u77
  | n + 1, t, false, W, o, out, m, i, μ, hx, hn, hl, hc, hi, hm => by
    have tN := hl.2.2.2.2
    have hN := g.1.1
    obtain ⟨m, rfl⟩ : ∃ x, m = x + 2 := ⟨m - 2, by omega⟩
    have k34 := g.2.1 t
    have wk := Wf_k o W hx.1
    have wb := Wf_b o W hx.1
    have o6 := hx.2.1
    have len := hx.2.2.2.2
    have k7 : gi μ 7 0 2 = nI (tkd K t) := hl.2.2.2.1.2.1
    have k0 : gi μ 2 0 0 = 0 := hl.1
    have h5 : gi μ 8 T 5 = nI (P + out.length) := hc.2.2.2.2.1
    have kb : tkd K t < 2147483648 := by unfold tkd; omega
    rw [fX2_readSum_L14, if_neg (by rw [show (400 : Int32) = nI 400 from rfl, nn_lt (by omega) (by omega)]; omega), if_pos k0, show dI false = 0 from rfl, if_pos rfl, k7]
    unfold exg
    by_cases ks : 26 ≤ tkd K t ∧ tkd K t ≤ 29
    · rw [if_neg (show ¬ nI (tkd K t) < 26 by rw [show (26 : Int32) = nI 26 from rfl, nn_lt kb (by omega)]; omega), if_neg (show ¬ 29 < nI (tkd K t) by rw [show (29 : Int32) = nI 29 from rfl, nn_lt (by omega) kb]; omega), if_pos ks]
      obtain ⟨μ1, a1, a2, a3⟩ := p_takeC (F := F) (k := tkd K t) g hl (by omega) (by omega) h5
      rw [a1, bd1_s]
      have sg : ∀ (s : Bool) (lvl : Nat), (s = true ∧ lvl = 28) ∨ (s = false ∧ lvl = 26) → s = decide (28 ≤ tkd K t) → ∃ μ', fX2_readSum_L91 F (fun v1 v2 μ => fX2_readSum_L14 F (m + 1) v1 v2 μ) (nI i) (nI (tkd K t)) (nI lvl) μ1 = some μ' ∧ KpC T P μ μ' ∧ EXC T K N P (if t = 400 then Sum.inl (2, pl K t) else exg K n (t + 1) true (tkd K t :: (relS (decide (28 ≤ tkd K t)) W out).1) o (relS (decide (28 ≤ tkd K t)) W out).2) μ' := fun s lvl hs es => by
        have rl := relS_l W out (s := s)
        have rm := relS_m W out (s := s)
        obtain ⟨μ2, b1, b2, b3, b4, b5⟩ := p_relX (F := F) (lvl := lvl) (s := s) hF hT hs wk (by omega) (by omega) (XC_FA a2 hc)
        obtain ⟨μ3, c1, c2, c3, c4⟩ := p_addW (F := F) (k := tkd K t) (by omega) b5
        unfold fX2_readSum_L91 fX2_readSum_L147
        rw [b1, bd1_s, c1, bd1_s]
        have kp : KpC T P μ μ3 := KpC_tr (KpC_tr (KpC_FA a2) (KpC_FL b2 b4)) (KpC_FW c2)
        unfold adv at a3
        rw [if_pos rfl] at a3
        have xs := Xi_sign hx ks.1 ks.2
        rw [← es] at xs ⊢
        by_cases z : t = 400
        · rw [if_pos z] at a3 ⊢
          have d3 : DdC T (2, pl K t) μ3 := DdC_n c2 (fun j hj => by unfold FW; omega) ⟨_, by omega, c4.2.2.2.2.1⟩ (DdC_n b2 (fun j hj => by unfold FL; omega) ⟨_, by omega, b5.2.2.2.2.1⟩ a3)
          obtain ⟨μ', e1, e2, e3⟩ := p_ddC (F := F) (m := m) (v1 := 1) (v2 := nI i + 1) hF hT (Wf_k o _ xs.1) (by rw [List.length_cons]; omega) (by rw [List.length_cons]; omega) c4 d3
          exact ⟨μ', e1, KpC_tr kp e2, e3⟩
        · rw [if_neg z] at a3 ⊢
          rw [nn_s]
          obtain ⟨μ', e1, e2, e3⟩ := p_exC hF hT g hP n (t + 1) true _ o _ (m + 1) (i + 1) _ xs (by omega) (LC_FW c2 c3 (LC_FL b2 b3 a3)) c4 (by omega) (by omega)
          exact ⟨μ', e1, KpC_tr kp e2, e3⟩
      by_cases k28 : tkd K t < 28
      · rw [if_pos (show nI (tkd K t) < 28 by rw [show (28 : Int32) = nI 28 from rfl, nn_lt kb (by omega)]; exact k28)]
        exact sg false 26 (Or.inr ⟨rfl, rfl⟩) (decide_eq_false (by omega)).symm
      · rw [if_neg (show ¬ nI (tkd K t) < 28 by rw [show (28 : Int32) = nI 28 from rfl, nn_lt kb (by omega)]; exact k28)]
        exact sg true 28 (Or.inl ⟨rfl, rfl⟩) (decide_eq_true (by omega)).symm
    rw [if_neg ks]
    have go : ∃ μ', fX2_readSum_L104 F (fun v1 v2 μ => fX2_readSum_L14 F (m + 1) v1 v2 μ) 0 (nI i) μ = some μ' ∧ KpC T P μ μ' ∧ EXC T K N P (if o = 0 then Sum.inr (t, (relS false W out).2) else if tkd K t = 32 then (if t = 400 then Sum.inl (2, pl K t) else exg K n (t + 1) false (relS false W out).1.tail (o - 1) (relS false W out).2) else Sum.inl (1, pl K t)) μ' := by
      have rl := relS_l W out (s := false)
      have rm := relS_m W out (s := false)
      unfold fX2_readSum_L104
      rw [hc.2.2.1]
      by_cases o0 : o = 0
      · obtain ⟨μ2, b1, b2, b3, b4, b5⟩ := p_relX (F := F) (lvl := 26) (s := false) hF hT (Or.inr ⟨rfl, rfl⟩) wk (by omega) (by omega) hc
        unfold fX2_readSum_L153
        rw [if_pos (by rw [o0]; decide), show (26 : Int32) = nI 26 from rfl, b1, bd1_s, if_pos o0]
        exact ⟨μ2, rfl, KpC_FL b2 b4, LC_FL b2 b3 hl, b5.2.2.2.2.1, b5.2.2.2.2.2⟩
      · obtain ⟨o, rfl⟩ : ∃ x, o = x + 1 := ⟨o - 1, by omega⟩
        rw [if_neg (show ¬ nI (o + 1) ≤ 0 by rw [show (0 : Int32) = nI 0 from rfl, nn_le (by omega) (by omega)]; omega), if_neg (by omega), show o + 1 - 1 = o from rfl]
        obtain ⟨μ1, a1, a2, a3⟩ := p_takeC (F := F) (k := 32) g hl (by omega) (by omega) h5
        obtain ⟨μ2, b1, b2, b3, b4, b5⟩ := p_relX (F := F) (lvl := 26) (s := false) hF hT (Or.inr ⟨rfl, rfl⟩) wk (by omega) (by omega) (XC_FA a2 hc)
        obtain ⟨xc, R, eR⟩ := Xi_close hx
        rw [show (32 : Int32) = nI 32 from rfl, show (26 : Int32) = nI 26 from rfl, a1, bd1_s, b1, bd1_s]
        unfold fX2_readSum_L147
        obtain ⟨c1, c2, c3, c4, c5, c6⟩ := b5
        rw [eR] at c1 c2 xc rl rm ⊢
        simp only [List.length_cons] at rl rm
        rw [List.tail_cons] at xc ⊢
        rw [gi_ne (by omega), c1, c3, List.length_cons, nn_1m, nn_1m, show (0 : Int32) = nI 0 from rfl, nn_mx (by omega) (by omega), Nat.max_eq_right (Nat.zero_le _)]
        have f3 : fr FW Q7 μ2 (si (si μ2 2 0 7 (nI R.length)) 2 0 8 (nI o)) := fr_tr (fr_si (Or.inr ⟨rfl, Or.inl rfl⟩)) (fr_si (Or.inr ⟨rfl, Or.inr rfl⟩))
        have x3 : XC T P R o (relS false W out).2 (si (si μ2 2 0 7 (nI R.length)) 2 0 8 (nI o)) := ⟨(gi_ne (by omega)).trans gi_eq, fun k hk => (gi_ne (by omega)).trans ((gi_ne (by omega)).trans (stk_pop (st := R.map nI) (x := nI 31) c2 k hk)), gi_eq, (gi_ne (by omega)).trans ((gi_ne (by omega)).trans c4), (gi_ne (by omega)).trans ((gi_ne (by omega)).trans c5), fun k hk => (gi_ne (by omega)).trans ((gi_ne (by omega)).trans (c6 k hk))⟩
        have kp : KpC T P μ (si (si μ2 2 0 7 (nI R.length)) 2 0 8 (nI o)) := KpC_tr (KpC_tr (KpC_FA a2) (KpC_FL b2 b4)) (KpC_FW f3)
        cases ha : adv K t 32 with
        | inl e =>
          rw [ha] at a3
          have d3 : DdC T e (si (si μ2 2 0 7 (nI R.length)) 2 0 8 (nI o)) := DdC_n f3 (fun j hj => by unfold FW; omega) ⟨_, by omega, x3.2.2.2.2.1⟩ (DdC_n b2 (fun j hj => by unfold FL; omega) ⟨_, by omega, c5⟩ a3)
          obtain ⟨μ', e1, e2, e3⟩ := p_ddC (F := F) (m := m) (v1 := nI 0) (v2 := nI i + 1) hF hT (Wf_k o _ xc.1) (by omega) (by omega) x3 d3
          refine ⟨μ', e1, KpC_tr kp e2, ?_⟩
          unfold adv at ha
          split at ha
          · rename_i y
            rw [if_pos y]
            split at ha
            · rename_i z
              injection ha with ha
              rw [if_pos z, ha]
              exact e3
            · cases ha
          · rename_i y
            injection ha with ha
            rw [if_neg y, ha]
            exact e3
        | inr t' =>
          rw [ha] at a3
          unfold adv at ha
          split at ha
          · rename_i y
            split at ha
            · cases ha
            · rename_i z
              injection ha with ha
              subst ha
              rw [if_pos y, if_neg z, nn_s]
              obtain ⟨μ', e1, e2, e3⟩ := p_exC hF hT g hP n (t + 1) false R o _ (m + 1) (i + 1) _ xc (by omega) (LC_FW f3 rfl (LC_FL b2 b3 a3)) x3 (by omega) (by omega)
              exact ⟨μ', e1, KpC_tr kp e2, e3⟩
          · cases ha
    by_cases k26 : tkd K t < 26
    · rw [if_pos (show nI (tkd K t) < 26 by rw [show (26 : Int32) = nI 26 from rfl, nn_lt kb (by omega)]; exact k26)]
      exact go
    · rw [if_neg (show ¬ nI (tkd K t) < 26 by rw [show (26 : Int32) = nI 26 from rfl, nn_lt kb (by omega)]; exact k26), if_pos (show 29 < nI (tkd K t) by rw [show (29 : Int32) = nI 29 from rfl, nn_lt (by omega) kb]; omega)]
      exact go
theorem p_sumC {F T N P t : Nat} {K : Nat → Tk} {μ : Mm} (hF : 1000 ≤ F) (hT : T < 2) (g : Gk K N) (hP : P ≤ 7 + t) (hl : LC T K N t μ) (h5 : gi μ 8 T 5 = nI P) : ∃ μ', fX2_readSum F μ = some μ' ∧ KpC T P μ μ' ∧ EXC T K N P (exs K t) μ' := by
  have f : fr FW Q7 μ (si (si μ 2 0 7 0) 2 0 8 0) := fr_tr (fr_si (Or.inr ⟨rfl, Or.inl rfl⟩)) (fr_si (Or.inr ⟨rfl, Or.inr rfl⟩))
  obtain ⟨μ', r1, r2, r3⟩ := p_exC (F := F) (T := T) (N := N) (P := P) (t0 := t) (K := K) hF hT g hP 500 t true [] 0 [] F 0 _ Xi_0 (by omega) (LC_FW f rfl hl) ⟨(gi_ne (by omega)).trans gi_eq, fun k hk => absurd hk (Nat.not_lt_zero _), gi_eq, (fr_n f (by unfold FW; omega)).trans hl.2.1, (fr_n f (by unfold FW; omega)).trans h5, fun k hk => absurd hk (Nat.not_lt_zero _)⟩ (by omega) (by omega)
  exact ⟨μ', r1, KpC_tr (KpC_FW f) r2, r3⟩
theorem p_sumCd {F T : Nat} {e : Int32 × Int32} {μ : Mm} (hF : 1000 ≤ F) (hT : T < 2) (h : DdC T e μ) : ∃ μ', fX2_readSum F μ = some μ' ∧ fr (FE T) Q7 μ μ' ∧ DdC T e μ' := by
  obtain ⟨P, hP, h5⟩ := h.2.2.2.2
  have f : fr FW Q7 μ (si (si μ 2 0 7 0) 2 0 8 0) := fr_tr (fr_si (Or.inr ⟨rfl, Or.inl rfl⟩)) (fr_si (Or.inr ⟨rfl, Or.inr rfl⟩))
  have d := DdC_n f (fun j hj => by unfold FW; omega) ⟨P, hP, (fr_n f (by unfold FW; omega)).trans h5⟩ h
  obtain ⟨m, rfl⟩ : ∃ m, F = m + 1 := ⟨F - 1, by omega⟩
  obtain ⟨μ', r1, r2, r3⟩ := p_ddC (F := m + 1) (m := m) (v1 := 1) (v2 := 0) (P := P) (W := []) (out := []) (o := 0) hF hT (fun w hw => absurd hw List.not_mem_nil) (by simp) (by simp; omega) ⟨(gi_ne (by omega)).trans gi_eq, fun k hk => absurd hk (Nat.not_lt_zero _), gi_eq, d.2.2.1, (fr_n f (by unfold FW; omega)).trans h5, fun k hk => absurd hk (Nat.not_lt_zero _)⟩ d
  exact ⟨μ', r1, fr_tr (KpC_FW (P := P) f).1 r2.1, r3⟩
