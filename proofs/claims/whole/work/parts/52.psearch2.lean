theorem p_mkc {F T f : Nat} {X : Xt} {μ : Mm} (hF : 1000 ≤ F) (hT : T < 2) (hX : Xok X) (hC : CT μ T X) (hf : f < xm X) (hv : tV (tgC μ 9)) : fX3_makes F (9 * T + 4 + f) 9 (gi μ 3 (9 * T + 4 + f) 0) μ = some (b01 (mkp (xv X f) (xl X f) 0 (tgC μ 9)).1, pt μ 9 (mkp (xv X f) (xl X f) 0 (tgC μ 9)).2) := by
  obtain ⟨x1, x2⟩ := hX.2.2.1 f hf
  obtain ⟨c1, c2, c3⟩ := hC.2.2.2.1 f hf
  refine p_makes hF x1 ?_ x2 c2 hv
  rw [c1]
  unfold mn
  split <;> rfl
theorem Tc_Ps : ∀ c i j, Tc c i → ¬ Ps c i j := fun c i j h q => by
  unfold Tc at h
  unfold Ps at q
  omega
theorem SQ_ag {P : Nat → Nat → Nat → Prop} {μ μ' : Mm} {l : Bl} (h : ag P μ μ') (hp : ∀ c i j, P c i j → c = 5) (q : SQ μ l) (m : SM μ l) : SQ μ' l ∧ SM μ' l := by
  have n : ∀ c i j, c ≠ 5 → gi μ' c i j = gi μ c i j := fun c i j w => ag_n h (fun z => w (hp _ _ _ z))
  obtain ⟨q1, q2, q3, q4⟩ := q
  exact ⟨⟨(n _ _ _ (by decide)).trans q1, q2, fun i hi => (n _ _ _ (by decide)).trans (q3 i hi), fun x hx y => q4 x hx (by rw [n _ _ _ (by decide)] at y; exact y)⟩, fun i hi => (n _ _ _ (by decide)).trans (m i hi)⟩
theorem p_sf {F T n k f : Nat} {X : Xt} {l : Bl} {μ : Mm} {K : Nat → Int32 → Mm → Option Mm} (hF : 1000 ≤ F) (hT : T < 2) (hX : Xok X) (hC : CT μ T X) (hw : WB l) (hq : SQ μ l) (hm : SM μ l) (hk : k < l.length) (hf : f < xm X) : ∃ μ', fX4_spread_L61 F K (n + 1) T (nI k) (nI f) μ = fX4_spread_L61 F K n T (nI k) (nI (f + 1)) μ' ∧ ag Ps μ μ' ∧ gi μ' 4 0 1 = gi μ 4 0 1 ∧ SQ μ' (bst X k f l) ∧ SM μ' (bst X k f l) := by
  have hm5 := hX.2.1
  have hl := WB_len hw
  have tk := hw.1 _ (List.getElem_mem hk)
  obtain ⟨d1, d2⟩ := cn_dec tk
  have e27 : gi μ 27 0 k = cn (l[k]).1 := hq.2.2.1 k hk
  have ept : si (si μ 5 9 0 ((gi μ 27 0 k / 100) - 99)) 5 9 1 (irm (gi (si μ 5 9 0 ((gi μ 27 0 k / 100) - 99)) 27 0 k) 100) = pt μ 9 (l[k]).1 := by
    rw [gi_ne (by omega), e27, d1, d2]
    rfl
  have g : ag Ps μ (pt μ 9 (l[k]).1) := ag_pt (fun j => Or.inr (Or.inr (Or.inr ⟨rfl, rfl⟩)))
  have g5 : ag (fun c i j => c = 5) μ (pt μ 9 (l[k]).1) := ag_pt (fun j => rfl)
  have C' := CT_ag hT hX g Tc_Ps hC
  have mk := p_mkc (F := F) (μ := pt μ 9 (l[k]).1) hF hT hX C' hf (by rw [tgC_pt]; exact tk)
  rw [tgC_pt, pt_pt] at mk
  have w : ¬ nI (xm X) ≤ nI f := by
    rw [nn_le (by omega) (by omega)]
    omega
  rw [fX4_spread_L61, hC.2.1, if_neg w, if_pos ((nn_inb (by omega)).mpr (by omega)), if_pos ((nn_inb (by omega)).mpr (by omega)), nn_cl (by omega), nn_cl (by omega), ept, mk, bd2_s, bst_c hk]
  unfold fX4_spread_L169
  by_cases c : (mkp (xv X f) (xl X f) 0 (l[k]).1).1 = true
  · have hu : tV (mkp (xv X f) (xl X f) 0 (l[k]).1).2 := tV_mkp _ _ _ (fun i _ hi => (hX.2.2.1 f hf).2 i (by omega)) tk
    generalize (mkp (xv X f) (xl X f) 0 (l[k]).1).2 = u at *
    rw [if_pos c, c, show b01 true = 1 from rfl, if_neg n1_0]
    have h5 : ag (fun c i j => c = 5) μ (pt μ 9 u) := ag_pt (fun j => rfl)
    obtain ⟨s1, s2⟩ := SQ_ag h5 (fun _ _ _ z => z) hq hm
    have e27' : gi (pt μ 9 u) 27 0 k = cn (l[k]).1 := s1.2.2.1 k hk
    obtain ⟨μ', a1, a2, a3, a4, a5⟩ := p_add (F := F) (w := cn (l[k]).1 * 8 + nI f + 1) hw s1 s2 hu hk (show f < 5 by omega) rfl
    have t0 : gi (pt μ 9 u) 5 9 0 = u.1 := congrArg Prod.fst (tgC_pt (μ := μ) (i := 9) (t := u))
    have t1 : gi (pt μ 9 u) 5 9 1 = u.2 := congrArg Prod.snd (tgC_pt (μ := μ) (i := 9) (t := u))
    rw [t0, t1, p_num hu, bd2_s, e27', a1, bd1_s, nn_s]
    exact ⟨μ', rfl, ag_tr (ag_pt (fun j => Or.inr (Or.inr (Or.inr ⟨rfl, rfl⟩)))) a2, a3.trans (ag_n h5 (by decide)), a4, a5⟩
  · rw [if_neg c, show b01 (mkp (xv X f) (xl X f) 0 (l[k]).1).1 = 0 from by unfold b01; rw [if_neg c], if_pos rfl, nn_s]
    generalize (mkp (xv X f) (xl X f) 0 (l[k]).1).2 = u at *
    have h5 : ag (fun c i j => c = 5) μ (pt μ 9 u) := ag_pt (fun j => rfl)
    obtain ⟨s1, s2⟩ := SQ_ag h5 (fun _ _ _ z => z) hq hm
    exact ⟨_, rfl, ag_pt (fun j => Or.inr (Or.inr (Or.inr ⟨rfl, rfl⟩))), ag_n h5 (by decide), s1, s2⟩
theorem p_sk {F T k : Nat} {X : Xt} {K : Nat → Int32 → Mm → Option Mm} (hF : 1000 ≤ F) (hT : T < 2) (hX : Xok X) : ∀ (d n f : Nat) (l : Bl) (μ : Mm), f + d = xm X → d < n → CT μ T X → WB l → SQ μ l → SM μ l → k < l.length → ∃ μ', fX4_spread_L61 F K n T (nI k) (nI f) μ = K T (nI (k + 1)) μ' ∧ ag Ps μ μ' ∧ gi μ' 4 0 1 = gi μ 4 0 1 ∧ SQ μ' (bsf X k d f l) ∧ SM μ' (bsf X k d f l)
  | _, 0, _, _, _, _, h, _, _, _, _, _ => absurd h (Nat.not_lt_zero _)
  | 0, n + 1, f, l, μ, h1, h2, hC, hw, hq, hm, hk => by
    have hm5 := hX.2.1
    rw [fX4_spread_L61, hC.2.1, if_pos (by rw [nn_le (by omega) (by omega)]; omega), nn_s]
    exact ⟨μ, rfl, ag_rfl, rfl, hq, hm⟩
  | d + 1, n + 1, f, l, μ, h1, h2, hC, hw, hq, hm, hk => by
    obtain ⟨μ1, a1, a2, a3, a4, a5⟩ := p_sf (F := F) (n := n) (K := K) hF hT hX hC hw hq hm hk (show f < xm X by omega)
    obtain ⟨b1, b2⟩ := bst_w hX hw hk (show f < xm X by omega)
    obtain ⟨μ', r1, r2, r3, r4, r5⟩ := p_sk (K := K) hF hT hX d n (f + 1) _ μ1 (by omega) (by omega) (CT_ag hT hX a2 Tc_Ps hC) b1 a4 a5 b2
    exact ⟨μ', a1.trans r1, ag_tr a2 r2, r3.trans a3, r4, r5⟩
theorem p_sL {F T : Nat} {X : Xt} (hF : 1000 ≤ F) (hT : T < 2) (hX : Xok X) : ∀ (m n k : Nat) (l : Bl) (μ : Mm), 12017 ≤ m + k → m < n → k ≤ 30000 - m → m ≤ 30000 → CT μ T X → WB l → SQ μ l → SM μ l → ∃ μ', fX4_spread_L39 F n T (nI k) μ = some μ' ∧ ag Ps μ μ' ∧ gi μ' 4 0 1 = gi μ 4 0 1 ∧ SQ μ' (bsk X m k l) ∧ SM μ' (bsk X m k l)
  | _, 0, _, _, _, _, h, _, _, _, _, _, _ => absurd h (Nat.not_lt_zero _)
  | 0, n + 1, k, l, μ, h1, h2, h3, h4, hC, hw, hq, hm => by
    have hl := WB_len hw
    rw [fX4_spread_L39, hq.1, if_pos (by rw [nn_le (by omega) (by omega)]; omega)]
    exact ⟨μ, rfl, ag_rfl, rfl, hq, hm⟩
  | m + 1, n + 1, k, l, μ, h1, h2, h3, h4, hC, hw, hq, hm => by
    have hl := WB_len hw
    rw [fX4_spread_L39, hq.1]
    unfold bsk
    by_cases w : k < l.length
    · rw [if_pos w, if_neg (by rw [nn_le (by omega) (by omega)]; omega), if_neg (show ¬ (12016 : Int32) ≤ nI k by rw [show (12016 : Int32) = nI 12016 from rfl, nn_le (by omega) (by omega)]; omega)]
      obtain ⟨μ1, a1, a2, a3, a4, a5⟩ := p_sk (F := F) (k := k) (K := fun v1 v4 μ => fX4_spread_L39 F n v1 v4 μ) hF hT hX (xm X) F 0 l μ (by omega) (by have := hX.2.1; omega) hC hw hq hm w
      have b := (bsf_w hX (xm X) 0 l (by omega) hw w).1
      obtain ⟨μ', r1, r2, r3, r4, r5⟩ := p_sL hF hT hX m n (k + 1) _ μ1 (by omega) (by omega) (by omega) (by omega) (CT_ag hT hX a2 Tc_Ps hC) b a4 a5
      rw [show (0 : Int32) = nI 0 from rfl, a1]
      exact ⟨μ', r1, ag_tr a2 r2, r3.trans a3, r4, r5⟩
    · rw [if_neg w, if_pos (by rw [nn_le (by omega) (by omega)]; omega)]
      exact ⟨μ, rfl, ag_rfl, rfl, hq, hm⟩
theorem p_ffL {F : Nat} {l : Bl} (hl : l.length ≤ 12016) (hv : ∀ b ∈ l, tV b.1) : ∀ (d n i : Nat) (μ : Mm), i + d = l.length → d < n → gi μ 4 0 0 = nI l.length → (∀ i, (h : i < l.length) → gi μ 27 0 i = cn (l[i]).1) → (∀ x, x < 19900 → gi μ 28 0 x ≠ 0 → ∃ j, ∃ h : j < l.length, i ≤ j ∧ cn (l[j]).1 = nI x) → ∃ μ', fX4_forgetFound_L2 F n (nI i) μ = some μ' ∧ ag Ps μ μ' ∧ gi μ' 4 0 1 = gi μ 4 0 1 ∧ gi μ' 4 0 0 = 0 ∧ ∀ x, x < 19900 → gi μ' 28 0 x = 0
  | _, 0, _, _, _, h, _, _, _ => absurd h (Nat.not_lt_zero _)
  | 0, n + 1, i, μ, h1, h2, h3, h4, h5 => by
    rw [fX4_forgetFound_L2, h3, if_pos (by rw [nn_le (by omega) (by omega)]; omega)]
    refine ⟨_, rfl, ag_si (Or.inl rfl), gi_ne (by omega), gi_eq, fun x hx => ?_⟩
    rw [gi_ne (by omega)]
    exact Classical.byContradiction (fun y => by
      obtain ⟨j, hj, hi, _⟩ := h5 x hx y
      omega)
  | d + 1, n + 1, i, μ, h1, h2, h3, h4, h5 => by
    have hi : i < l.length := by omega
    have tk := hv _ (List.getElem_mem hi)
    obtain ⟨c1, c2⟩ := cn_in tk
    rw [fX4_forgetFound_L2, h3, if_neg (by rw [nn_le (by omega) (by omega)]; omega), if_pos ((nn_inb (by omega)).mpr (by omega)), nn_cl (by omega), h4 i hi, if_pos c1, c2, nn_s]
    obtain ⟨μ', r1, r2, r3, r4, r5⟩ := p_ffL hl hv d n (i + 1) (si μ 28 0 (cnN (l[i]).1) 0) (by omega) (by omega) (by rw [gi_ne (by omega)]; exact h3) (fun j hj => by rw [gi_ne (by omega)]; exact h4 j hj) (fun x hx y => by
      rw [gi_si] at y
      by_cases w : x = cnN (l[i]).1
      · rw [if_pos ⟨rfl, rfl, w⟩] at y
        exact absurd rfl y
      · rw [if_neg (by omega)] at y
        obtain ⟨j, hj, g1, g2⟩ := h5 x hx y
        refine ⟨j, hj, ?_, g2⟩
        rcases Nat.lt_or_ge i j with z | z
        · exact z
        · have e : j = i := by omega
          subst e
          obtain ⟨f1, f2, _⟩ := cn_f tk
          rw [f1, nn_inj (by omega) (by omega)] at g2
          exact absurd g2.symm w)
    exact ⟨μ', r1, ag_tr (ag_si (Or.inr (Or.inr (Or.inl rfl)))) r2, r3.trans (gi_ne (by omega)), r4, r5⟩
theorem p_spread {F T i : Nat} {X : Xt} {μ : Mm} (hF : 100000 ≤ F) (hT : T < 2) (hX : Xok X) (hC : CT μ T X) (hS : SE μ X) (hi : i < 5) (hv : tV (tgC μ i)) : ∃ μ', fX4_spread F T i μ = some μ' ∧ ag Ps μ μ' ∧ gi μ' 4 0 1 = cn (tgC μ i) ∧ SQ μ' (bfs X (tgC μ i)) ∧ SM μ' (bfs X (tgC μ i)) := by
  unfold fX4_spread
  rw [show gi μ 5 i 0 = (tgC μ i).1 from rfl, show gi μ 5 i 1 = (tgC μ i).2 from rfl, p_num hv, bd2_s]
  generalize tgC μ i = t at *
  obtain ⟨f1, f2, f3⟩ := cn_f hv
  obtain ⟨⟨l, s1, s2⟩, s3⟩ := hS
  by_cases w : cn t = gi μ 4 0 1
  · rw [if_pos w]
    rcases s3 with s3 | ⟨t', g1, g2, g3, g4⟩
    · rw [s3] at w
      have : (cn t).toInt = -1 := by
        rw [w]
        rfl
      obtain ⟨h1, h2, h3, h4, h5, h6⟩ := hv
      omega
    · have e : t = t' := cn_inj hv g1 (w.trans g2)
      subst e
      exact ⟨μ, rfl, ag_rfl, g2, g3, g4⟩
  · rw [if_neg w]
    unfold fX4_forgetFound
    obtain ⟨μ1, r1, r2, r3, r4, r5⟩ := p_ffL (F := F) s1.2.1 s2 l.length F 0 (si μ 4 0 1 (cn t)) (by omega) (by have := s1.2.1; omega) (by rw [gi_ne (by omega)]; exact s1.1) (fun j hj => by rw [gi_ne (by omega)]; exact s1.2.2.1 j hj) (fun x hx y => by
      rw [gi_ne (by omega)] at y
      obtain ⟨j, hj, e⟩ := s1.2.2.2 x hx y
      exact ⟨j, hj, Nat.zero_le _, e⟩)
    obtain ⟨c1, c2⟩ := cn_in hv
    rw [show (0 : Int32) = nI 0 from rfl, r1, bd1_s]
    have n4 : gi (si μ1 28 0 (cnN t) (-1)) 4 0 0 = 0 := by rw [gi_ne (by omega), r4]
    have ea : fX4_add F (cn t) (-1) μ1 = some (si (si (si μ1 28 0 (cnN t) (-1)) 27 0 0 (cn t)) 4 0 0 1) := by
      unfold fX4_add
      rw [if_pos c1, c2, if_pos (r5 _ f2), r4, if_neg (by decide), n4, if_pos (by decide), show (0 : Int32).toNatClampNeg = 0 from rfl, gi_ne (by omega), n4]
      rfl
    rw [ea, bd1_s]
    generalize hμ2 : si (si (si μ1 28 0 (cnN t) (-1)) 27 0 0 (cn t)) 4 0 0 1 = μ2
    have a12 : ag Ps μ1 μ2 := by
      rw [← hμ2]
      exact ag_tr (ag_tr (ag_si (Or.inr (Or.inr (Or.inl rfl)))) (ag_si (Or.inr (Or.inl rfl)))) (ag_si (Or.inl rfl))
    have g02 : ag Ps μ μ2 := ag_tr (ag_tr (ag_si (Or.inl rfl)) r2) a12
    have e1 : gi μ2 4 0 1 = cn t := by
      rw [← hμ2, gi_ne (by omega), gi_ne (by omega), gi_ne (by omega), r3, gi_eq]
    have q0 : SQ μ2 [(t, 0, 0)] := by
      rw [← hμ2]
      refine ⟨gi_eq, show (1 : Nat) ≤ 12016 by decide, fun j hj => ?_, fun x hx y => ?_⟩
      · simp only [List.length_singleton] at hj
        have e : j = 0 := by omega
        subst e
        rw [gi_ne (by omega), gi_eq]
        rfl
      · rw [gi_ne (by omega), gi_ne (by omega), gi_si] at y
        by_cases z : x = cnN t
        · exact ⟨0, Nat.one_pos, by rw [z]; exact f1⟩
        · rw [if_neg (by omega), r5 x hx] at y
          exact absurd rfl y
    have m0 : SM μ2 [(t, 0, 0)] := fun j hj => by
      simp only [List.length_singleton] at hj
      have e : j = 0 := by omega
      subst e
      rw [← hμ2, show ([(t, 0, 0)] : Bl)[0].1 = t from rfl, c2, gi_ne (by omega), gi_ne (by omega), gi_eq]
      rfl
    obtain ⟨μ', x1, x2, x3, x4, x5⟩ := p_sL (F := F) (by omega) hT hX 20000 F 0 _ μ2 (by omega) (by omega) (by omega) (by omega) (CT_ag hT hX g02 Tc_Ps hC) (WB_1 hv) q0 m0
    exact ⟨μ', x1, ag_tr g02 x2, x3.trans e1, x4, x5⟩
