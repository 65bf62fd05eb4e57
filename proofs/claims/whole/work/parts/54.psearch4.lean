theorem Pg_SR : ∀ c i j, Pg c i j → SR c i j := fun c i j h => by
  unfold Pg at h
  unfold SR
  omega
theorem RQ_dep {ν ν' : Mm} {l : Bl} (h : ∀ c j, (80 ≤ c ∧ c ≤ 83) ∨ (c = 12 ∧ j = 56) → gi ν' c 0 j = gi ν c 0 j) (q : RQ ν l) : RQ ν' l := by
  obtain ⟨q1, q2, q3⟩ := q
  refine ⟨(h _ _ (by omega)).trans q1, fun i hi => ?_, fun x hx => ?_⟩
  · rw [h _ _ (by omega), h _ _ (by omega), h _ _ (by omega), h _ _ (by omega)]
    exact q2 i hi
  · rw [h _ _ (by omega)]
    exact q3 x hx
theorem p_gk {F S k : Nat} {X : Xt} {K : Int32 → Mm → Option Mm} (hF : 1000 ≤ F) (hS2 : S < 2) (hX : Xok X) : ∀ (d n f : Nat) (l : Bl) (ν : Mm), f + d = xm X → d < n → gi ν 12 0 18 = nI S → RT ν S X → WB l → RQ ν l → k < l.length → ∃ ν', fX12_goesThrough_L53 F K n (nI k) (nI f) ν = K (nI (k + 1)) ν' ∧ ag Pg ν ν' ∧ RQ ν' (bsf X k d f l)
  | _, 0, _, _, _, _, h, _, _, _, _, _ => absurd h (Nat.not_lt_zero _)
  | 0, n + 1, f, l, ν, h1, h2, hS, hR, hw, hq, hk => by
    have hm5 := hX.2.1
    rw [fX12_goesThrough_L53, p_figN hS hS2 hR, bd2_s, if_pos (by rw [nn_le (by omega) (by omega)]; omega), nn_s]
    exact ⟨ν, rfl, ag_rfl, hq⟩
  | d + 1, n + 1, f, l, ν, h1, h2, hS, hR, hw, hq, hk => by
    obtain ⟨ν1, a1, a2, a3⟩ := p_gf (F := F) (n := n) (K := K) hF hS2 hX hS hR hw hq hk (show f < xm X by omega)
    obtain ⟨b1, b2⟩ := bst_w hX hw hk (show f < xm X by omega)
    have g := ag_of a2 Pg_SR
    obtain ⟨ν', r1, r2, r3⟩ := p_gk (K := K) hF hS2 hX d n (f + 1) _ ν1 (by omega) (by omega) (live_SR g hS) (RT_SR g hR) b1 a3 b2
    exact ⟨ν', a1.trans r1, ag_tr a2 r2, r3⟩
theorem p_gL {F S : Nat} {X : Xt} (hF : 1000 ≤ F) (hS2 : S < 2) (hX : Xok X) : ∀ (m n k : Nat) (l : Bl) (ν : Mm), 12017 ≤ m + k → m < n → k ≤ 30000 - m → m ≤ 30000 → gi ν 12 0 18 = nI S → RT ν S X → WB l → RQ ν l → ∃ ν', fX12_goesThrough_L43 F n (nI k) ν = some ν' ∧ ag Pg ν ν' ∧ RQ ν' (bsk X m k l)
  | _, 0, _, _, _, _, h, _, _, _, _, _, _ => absurd h (Nat.not_lt_zero _)
  | 0, n + 1, k, l, ν, h1, h2, h3, h4, hS, hR, hw, hq => by
    have hl := WB_len hw
    rw [fX12_goesThrough_L43, hq.1, if_pos (by rw [nn_le (by omega) (by omega)]; omega)]
    exact ⟨ν, rfl, ag_rfl, hq⟩
  | m + 1, n + 1, k, l, ν, h1, h2, h3, h4, hS, hR, hw, hq => by
    have hl := WB_len hw
    rw [fX12_goesThrough_L43, hq.1]
    unfold bsk
    by_cases w : k < l.length
    · rw [if_pos w, if_neg (by rw [nn_le (by omega) (by omega)]; omega)]
      obtain ⟨ν1, a1, a2, a3⟩ := p_gk (F := F) (k := k) (K := fun v2 μ => fX12_goesThrough_L43 F n v2 μ) hF hS2 hX (xm X) F 0 l ν (by omega) (by have := hX.2.1; omega) hS hR hw hq w
      have b := (bsf_w hX (xm X) 0 l (by omega) hw w).1
      have g := ag_of a2 Pg_SR
      obtain ⟨ν', r1, r2, r3⟩ := p_gL hF hS2 hX m n (k + 1) _ ν1 (by omega) (by omega) (by omega) (by omega) (live_SR g hS) (RT_SR g hR) b a3
      rw [show (0 : Int32) = nI 0 from rfl, a1]
      exact ⟨ν', r1, ag_tr a2 r2, r3⟩
    · rw [if_neg w, if_pos (by rw [nn_le (by omega) (by omega)]; omega)]
      exact ⟨ν, rfl, ag_rfl, hq⟩
theorem p_g2 {F : Nat} {v : Int32} (hv : inb v 20000 = true) : ∀ (d n i : Nat) (ν : Mm), i + d = 20000 → d < n → fX12_goesThrough_L2 F n v (nI i) ν = fX12_goesThrough_L43 F F 0 (si (si (si (bw ν 80 0 i 20000 (fun _ => -1)) 80 0 v.toNatClampNeg 0) 83 0 0 v) 12 0 56 1)
  | _, 0, _, _, _, h => absurd h (Nat.not_lt_zero _)
  | 0, n + 1, i, ν, h1, h2 => by
    rw [fX12_goesThrough_L2, show (20000 : Int32) = nI 20000 from rfl, if_pos (by rw [nn_le (by omega) (by omega)]; omega), if_pos hv, bw_0 (by omega)]
  | d + 1, n + 1, i, ν, h1, h2 => by
    rw [fX12_goesThrough_L2, show (20000 : Int32) = nI 20000 from rfl, if_neg (by rw [nn_le (by omega) (by omega)]; omega), if_pos ((nn_inb (by omega)).mpr (by omega)), nn_cl (by omega), nn_s, p_g2 hv d n (i + 1) _ (by omega) (by omega), bw_s (g := fun _ => -1) (by omega) rfl (fun _ _ _ => rfl)]
theorem p_goT {F S : Nat} {X : Xt} {ν : Mm} {t : Tg} (hF : 100000 ≤ F) (hS2 : S < 2) (hX : Xok X) (hS : gi ν 12 0 18 = nI S) (hR : RT ν S X) (hv : tV t) : ∃ ν', fX12_goesThrough F (enc t) ν = some ν' ∧ ag Pg ν ν' ∧ RQ ν' (bfs X t) := by
  obtain ⟨u1, u2, u3⟩ := eN_f hv
  unfold fX12_goesThrough
  rw [show (0 : Int32) = nI 0 from rfl, p_g2 u3 20000 F 0 ν rfl (by omega), show (enc t).toNatClampNeg = eN t from rfl]
  generalize hν2 : si (si (si (bw ν 80 0 0 20000 (fun _ => -1)) 80 0 (eN t) 0) 83 0 0 (enc t)) 12 0 56 1 = ν2
  have g : ag Pg ν ν2 := by
    rw [← hν2]
    exact ⟨fun c i j w => by
      unfold Pg at w
      rw [gi_ne (by omega), gi_ne (by omega), gi_ne (by omega), gi_bw, if_neg (by omega)], fun _ _ _ => rfl⟩
  have q : RQ ν2 [(t, 0, 0)] := by
    rw [← hν2]
    refine ⟨gi_eq, fun i hi => ?_, fun x hx => ?_⟩
    · simp only [List.length_singleton] at hi
      have e : i = 0 := by omega
      subst e
      refine ⟨?_, ?_, fun z => absurd rfl z⟩
      · rw [gi_ne (by omega), gi_eq]
        rfl
      · rw [show ([(t, 0, 0)] : Bl)[0].1 = t from rfl, gi_ne (by omega), gi_ne (by omega), gi_eq]
        rfl
    · rw [gi_ne (by omega), gi_ne (by omega), gi_si]
      by_cases w : x = eN t
      · exact Or.inr ⟨0, Nat.one_pos, w.symm⟩
      · rw [if_neg (by omega), gi_bw, if_pos (by omega)]
        exact Or.inl rfl
  have gs := ag_of g Pg_SR
  obtain ⟨ν', x1, x2, x3⟩ := p_gL (F := F) (by omega) hS2 hX 20000 F 0 _ ν2 (by omega) (by omega) (by omega) (by omega) (live_SR gs hS) (RT_SR gs hR) (WB_1 hv) q
  rw [show (0 : Int32) = nI 0 from rfl] at *
  exact ⟨ν', x1, ag_tr g x2, x3⟩
theorem p_poL {F A : Nat} {l : Bl} {ν : Mm} (hw : WB l) (hq : RQ ν l) : ∀ (d n i : Nat), d < n → (hi : i < l.length) → dp l i = A + 1 + d → fX12_planOf_L44 F n (nI A) (enc (l[i]).1) ν = some (nI (fgr l (anc l d i)), ν)
  | _, 0, _, h, _, _ => absurd h (Nat.not_lt_zero _)
  | d, n + 1, i, h2, hi, hd => by
    have z : i ≠ 0 := fun z => by
      rw [z, dp_0] at hd
      omega
    have hl := WB_len hw
    have dl := dp_le hw (i + 1) i (by omega) hi
    obtain ⟨u1, u2, u3⟩ := eN_f (hw.1 _ (List.getElem_mem hi))
    obtain ⟨p1, p2, p3⟩ := hq.2.1 i hi
    obtain ⟨p4, p5⟩ := p3 z
    obtain ⟨k1, k2⟩ := par_lt hw hi (by omega)
    have hp : par l i < l.length := by omega
    rw [fX12_planOf_L44, if_pos u3, show (enc (l[i]).1).toNatClampNeg = eN (l[i]).1 from rfl, p2, nn_s]
    match d with
    | 0 =>
      rw [if_pos (by rw [nn_le (by omega) (by omega)]; omega), p5]
      rfl
    | d + 1 =>
      have ds := dp_s hw hi z
      rw [if_neg (by rw [nn_le (by omega) (by omega)]; omega), p4, getD_i hp]
      exact p_poL hw hq d n (par l i) (by omega) hp (by omega)
/-- what a call of a plan tells, of the class, of the reference -/
theorem p_plan {F S i : Nat} {X : Xt} {μ μ1 ν : Mm} {t v : Tg} {b : Int32} {sf : Mm → Option Mm} (hF : 100000 ≤ F) (hS2 : S < 2) (hX : Xok X) (hS : gi ν 12 0 18 = nI S) (hR : RT ν S X) (ht : tV t) (hv : tV v) (hb : -1 ≤ b.toInt) (h0 : gi μ 5 i 0 = v.1) (h1 : gi μ 5 i 1 = v.2) (hs : sf μ = some μ1) (hq : SQ μ1 (bfs X t)) (hm : SM μ1 (bfs X t)) :
    ∃ r ν', (bd2 (fX4_number F (gi μ 5 i 0) (gi μ 5 i 1) μ) fun r3 μ2 => bd1 (sf μ2) fun μ6 => bd2 (fX4_lengthTo F r3 μ6) fun r10 μ9 => if r10 = (-1) then (some ((-2), μ9)) else (if b = (-1) then (some (r10, μ9)) else (if r10 ≤ b then (some ((-1), μ9)) else (bd2 (fX4_figureBeforeLast F r3 ((r10 - 1) - b) μ9) fun r17 μ16 => some (r17, μ16))))) = some (r, μ1) ∧
      fX12_planOf F (enc t) (enc v) b ν = some (r, ν') ∧ ag Pg ν ν' := by
  obtain ⟨ν', r1, r2, r3⟩ := p_goT (F := F) hF hS2 hX hS hR ht
  have hw := bfs_w hX ht
  have hl := WB_len hw
  generalize bfs X t = l at *
  obtain ⟨u1, u2, u3⟩ := eN_f hv
  unfold fX12_planOf
  rw [h0, h1, p_num hv, bd2_s, hs, bd1_s, r1, bd1_s, if_pos u3, show (enc v).toNatClampNeg = eN v from rfl]
  by_cases z : ∃ j, ∃ h : j < l.length, (l[j]).1 = v
  · obtain ⟨j, hj, rfl⟩ := z
    have dl := dp_le hw (j + 1) j (by omega) hj
    have e80 := (r3.2.1 j hj).2.1
    rw [p_len hF hw hq hm hj, bd2_s, e80, if_neg (show ¬ nI (dp l j) = -1 from fun y => by
      have := congrArg Int32.toInt y
      rw [nI_toInt (by omega), show (-1 : Int32).toInt = -1 from rfl] at this
      omega), if_pos (show (0 : Int32) ≤ nI (dp l j) by rw [show (0 : Int32) = nI 0 from rfl, nn_le (by omega) (by omega)]; omega)]
    by_cases b1 : b = -1
    · rw [if_pos b1, if_pos b1]
      exact ⟨_, ν', rfl, rfl, r2⟩
    rw [if_neg b1, if_neg b1]
    have b0 : 0 ≤ b.toInt := by
      have : b.toInt ≠ -1 := fun y => b1 (i_eq.mpr y)
      omega
    by_cases c : nI (dp l j) ≤ b
    · have c' := i_le.mp c
      rw [if_pos c, if_neg (fun y => by have := i_lt.mp y; omega)]
      exact ⟨_, ν', rfl, rfl, r2⟩
    have c2 : b.toInt < dp l j := by
      rw [i_le, nI_toInt (by omega)] at c
      omega
    obtain ⟨A, hA, hA2⟩ : ∃ A, b = nI A ∧ A < dp l j := ⟨b.toInt.toNat, nn_get b0, by omega⟩
    rw [if_neg c, if_pos (i_lt.mpr (by rw [nI_toInt (by omega)]; exact c2)), hA, show (1 : Int32) = nI 1 from rfl, nn_sub (by omega), nn_sub (by omega)]
    unfold fX4_figureBeforeLast
    rw [show (0 : Int32) = nI 0 from rfl, p_fbL hw hm (show dp l j - 1 - A < 2147483648 by omega) (dp l j - 1 - A) F j 0 (by omega) (by omega) hj (by omega), bd2_s, p_poL hw r3 (dp l j - 1 - A) F j (by omega) hj (by omega)]
    exact ⟨_, ν', rfl, rfl, r2⟩
  · have hn : ∀ i (hi : i < l.length), (l[i]).1 ≠ v := fun i hi y => z ⟨i, hi, y⟩
    rw [p_lenN hq hw hv hn, bd2_s, if_pos rfl]
    rcases r3.2.2 _ u2 with y | ⟨j, hj, y⟩
    · rw [y, if_neg (by decide)]
      exact ⟨_, ν', rfl, rfl, r2⟩
    · exact absurd (eN_inj (hw.1 _ (List.getElem_mem hj)) hv y) (hn j hj)
/-- the class's search, made or there -/
def Pz (c i j : Nat) : Prop := Ps c i j ∨ (c = 11 ∧ j = 10) ∨ (c = 5 ∧ i = 4)
theorem SE_1 {μ : Mm} {X : Xt} {t : Tg} (hX : Xok X) (ht : tV t) (h : gi μ 4 0 1 = cn t) (hq : SQ μ (bfs X t)) (hm : SM μ (bfs X t)) : SE μ X := ⟨⟨_, hq, (bfs_w hX ht).1⟩, Or.inr ⟨t, ht, h, hq, hm⟩⟩
theorem p_s18 {F T i : Nat} {X : Xt} {μ : Mm} (hF : 100000 ≤ F) (hT : T < 2) (hX : Xok X) (hC : CT μ T X) (ht : gi μ 11 0 2 = nI T) (h1 : gi μ 11 0 10 = 1) (hS : SE μ X) (hi : i < 5) (hv : tV (tgC μ i)) : ∃ μ', fX11_searchFrom_L18 F i μ = some μ' ∧ ag Ps μ μ' ∧ gi μ' 4 0 1 = cn (tgC μ i) ∧ SQ μ' (bfs X (tgC μ i)) ∧ SM μ' (bfs X (tgC μ i)) := by
  obtain ⟨μ', a1, a2, a3, a4, a5⟩ := p_spread (F := F) hF hT hX hC hS hi hv
  unfold fX11_searchFrom_L18
  rw [if_neg (by rw [h1]; decide), ht, tx_nI hT, a1, bd1_s, ag_n a2 (by unfold Ps; omega), h1, if_neg (by decide)]
  exact ⟨μ', rfl, a2, a3, a4, a5⟩
theorem iX4_gi {μ : Mm} {c i j : Nat} (h : ¬ Ps c i j) : gi (iX4 μ) c i j = gi μ c i j := by
  unfold Ps at h
  unfold iX4 zrs iX5 zrs
  show gi (si (zr (si (zr (zr (zr μ 27 0) 28 0) 5 9) 5 9 1 1) 4 0) 4 0 1 (-1)) c i j = _
  rw [gi_ne (by omega), zr_gi (by omega), gi_ne (by omega), zr_gi (by omega), zr_gi (by omega), zr_gi (by omega)]
theorem iX4_SE {μ : Mm} {X : Xt} : SE (si (iX4 μ) 11 0 10 1) X := by
  have e4 : gi (si (iX4 μ) 11 0 10 1) 4 0 1 = -1 := by
    rw [gi_ne (by omega)]
    unfold iX4 zrs iX5 zrs
    show gi (si (zr (si (zr (zr (zr μ 27 0) 28 0) 5 9) 5 9 1 1) 4 0) 4 0 1 (-1)) 4 0 1 = _
    rw [gi_eq]
  refine ⟨⟨[], ⟨?_, by decide, fun i hi => absurd hi (Nat.not_lt_zero _), fun x hx y => ?_⟩, fun b hb => absurd hb (List.not_mem_nil)⟩, Or.inl e4⟩
  · rw [gi_ne (by omega)]
    unfold iX4 zrs iX5 zrs
    show gi (si (zr (si (zr (zr (zr μ 27 0) 28 0) 5 9) 5 9 1 1) 4 0) 4 0 1 (-1)) 4 0 0 = _
    rw [gi_ne (by omega), zr_0]
    rfl
  · refine absurd ?_ y
    rw [gi_ne (by omega)]
    unfold iX4 zrs iX5 zrs
    show gi (si (zr (si (zr (zr (zr μ 27 0) 28 0) 5 9) 5 9 1 1) 4 0) 4 0 1 (-1)) 28 0 x = _
    rw [gi_ne (by omega), zr_gi (by omega), gi_ne (by omega), zr_gi (by omega), zr_0]
/-- the search stands, or is made: what it leaves -/
theorem p_sf2 {F T S i : Nat} {X : Xt} {e : Es} {u s : Bool} {μ ν μp : Mm} (hF : 100000 ≤ F) (q1 : IB T S X u s μ ν) (q2 : IE (xn X) e μ ν) (q3 : HI (xn X) μ ν) (hp : ag (fun c i _ => c = 5 ∧ i = 4) μ μp) (hi : i < xn X) :
    ∃ μ', (if s = true then fX11_searchFrom F i μp = some μ' else fX11_searchFrom_a F i μp = some μ') ∧ SQ μ' (bfs X (tgC μ i)) ∧ SM μ' (bfs X (tgC μ i)) ∧ ∀ ν', ag SR ν ν' → Inv u true μ' ν' := by
  obtain ⟨a1, a2, a3, a4, a5, a6, a7, a8, a9, a10, a11, a12, a13, a14, a15, a16⟩ := id q1
  have h4 := a3.1
  obtain ⟨t1, t2, t3, t4, _⟩ := IE_sq q2 hi h4
  have hv : tV (tgC μ i) := by rw [t1]; exact t4.1
  -- the memory before the search goes
  obtain ⟨μ0, m1, m2, m3, m4, m5⟩ : ∃ μ0, (if s = true then fX11_searchFrom F i μp = fX11_searchFrom_L18 F i μ0 else fX11_searchFrom_a F i μp = fX11_searchFrom_L18 F i μ0) ∧ (∀ c i j, ¬ Pz c i j → gi μ0 c i j = gi μ c i j) ∧ gi μ0 11 0 10 = 1 ∧ SE μ0 X ∧ CT μ0 T X := by
    have k : ∀ {c i j}, ¬ (c = 5 ∧ i = 4) → gi μp c i j = gi μ c i j := fun h => ag_n hp h
    rcases a16 with ⟨rfl, z⟩ | ⟨rfl, z, hSE⟩
    · refine ⟨si (iX4 μp) 11 0 10 1, ?_, fun c i j w => ?_, gi_eq, iX4_SE, CT_of a1 a3 (fun c i j w => ?_) a7⟩
      · rw [if_neg (by decide)]
        unfold fX11_searchFrom_a
        rw [k (by omega), z, if_pos rfl]
      · unfold Pz at w
        rw [gi_ne (fun y => w (Or.inr (Or.inl ⟨y.1, y.2.2⟩))), iX4_gi (fun y => w (Or.inl y)), k (fun y => w (Or.inr (Or.inr y)))]
      · rw [gi_ne (by unfold Tc at w; omega), iX4_gi (Tc_Ps c i j w), k (by unfold Tc at w; omega)]
    · refine ⟨μp, ?_, fun c i j w => ?_, by rw [k (by omega)]; exact z, SE_ag ⟨k (by omega), k (by omega)⟩ (fun j => ⟨k (by omega), k (by omega)⟩) hSE, CT_of a1 a3 (fun c i j w => k (by unfold Tc at w; omega)) a7⟩
      · rw [if_pos rfl]
        unfold fX11_searchFrom
        rw [k (by omega), z, if_neg (by decide)]
      · unfold Pz at w
        exact k (fun y => w (Or.inr (Or.inr y)))
  have te : tgC μ0 i = tgC μ i := by
    unfold tgC
    rw [m2 _ _ _ (by unfold Pz Ps; omega), m2 _ _ _ (by unfold Pz Ps; omega)]
  obtain ⟨μ', r1, r2, r3, r4, r5⟩ := p_s18 (F := F) (i := i) hF a1 a3 m5 ((m2 _ _ _ (by unfold Pz Ps; omega)).trans a4) m3 m4 (by omega) (by rw [te]; exact hv)
  rw [te] at r3 r4 r5
  have kk : ∀ c i j, ¬ Pz c i j → gi μ' c i j = gi μ c i j := fun c i j w => (ag_n r2 (fun y => w (Or.inl y))).trans (m2 c i j w)
  refine ⟨μ', ?_, r4, r5, fun ν' hν => Inv_new (fun c i j w => kk c i j (fun y => w (by unfold Pz Ps at y; unfold Pq SC; omega))) hν (UI_ag (kk _ _ _ (by unfold Pz Ps; omega)) (fun j => ⟨kk _ _ _ (by unfold Pz Ps; omega), kk _ _ _ (by unfold Pz Ps; omega)⟩) a15) (Or.inr ⟨rfl, (ag_n r2 (by unfold Ps; omega)).trans m3, SE_1 a3 hv r3 r4 r5⟩) q1 q2 q3⟩
  by_cases z : s = true
  · rw [if_pos z] at m1 ⊢
    rw [m1, r1]
  · rw [if_neg z] at m1 ⊢
    rw [m1, r1]
