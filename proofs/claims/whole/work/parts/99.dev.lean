/-! PURE: evenings: all squares, the minute, what was paid -/
abbrev Es : Type := (Nat → Tg × Int32 × Int32) × Int32 × Int32
def stS (X : Xt) (seed : Int32) (e : Es) (s : Nat) : Es := (fun i => if i = s then dnS X seed e.2.1 (nI s) (e.1 s) else e.1 i, e.2.1, e.2.2 + wth X 2 (vrS (e.1 s).1 (e.1 s).2.1 e.2.1 (nI s) 0 (e.1 s).2.2))
def goS (X : Xt) (seed : Int32) : Nat → Nat → Es → Es
  | 0, _, e => e
  | k + 1, s, e => goS X seed k (s + 1) (stS X seed e s)
/-- a MINUTE goes by -/
def mnS (X : Xt) (seed : Int32) (e : Es) : Es := ((goS X seed (xn X) 0 e).1, (goS X seed (xn X) 0 e).2.1 + 1, (goS X seed (xn X) 0 e).2.2)
def mnI (X : Xt) (seed : Int32) : Nat → Es → Es
  | 0, e => e
  | k + 1, e => mnI X seed k (mnS X seed e)
/-- a square for so many minutes -/
def dnI (X : Xt) (seed s : Int32) : Nat → Int32 → Tg × Int32 × Int32 → Tg × Int32 × Int32
  | 0, _, q => q
  | k + 1, minute, q => dnI X seed s k (minute + 1) (dnS X seed minute s q)
def eOk (e : Es) : Prop := ∀ i, i < 4 → qOk (e.1 i)
theorem stS_ok {X : Xt} {seed : Int32} {e : Es} {s : Nat} (hX : Xok X) (hs : s < 4) (h : eOk e) : eOk (stS X seed e s) := fun i hi => by
  show qOk (if i = s then _ else _)
  split
  · exact dn_ok hX (h s hs)
  · exact h i hi
theorem goS_ok {X : Xt} {seed : Int32} (hX : Xok X) : ∀ (k s : Nat) (e : Es), s + k ≤ 4 → eOk e → eOk (goS X seed k s e)
  | 0, _, _, _, h => h
  | k + 1, s, e, hk, h => goS_ok hX k (s + 1) _ (by omega) (stS_ok hX (by omega) h)
theorem mnS_ok {X : Xt} {seed : Int32} {e : Es} (hX : Xok X) (h : eOk e) : eOk (mnS X seed e) := goS_ok hX _ 0 e (by have := hX.1; omega) h
theorem mnI_ok {X : Xt} {seed : Int32} (hX : Xok X) : ∀ (k : Nat) (e : Es), eOk e → eOk (mnI X seed k e)
  | 0, _, h => h
  | k + 1, e, h => mnI_ok hX k _ (mnS_ok hX h)
theorem goS_min {X : Xt} {seed : Int32} : ∀ (k s : Nat) (e : Es), (goS X seed k s e).2.1 = e.2.1
  | 0, _, _ => rfl
  | k + 1, s, e => (goS_min k (s + 1) _).trans rfl
theorem goS_sq {X : Xt} {seed : Int32} : ∀ (k s : Nat) (e : Es) (i : Nat), (goS X seed k s e).1 i = if s ≤ i ∧ i < s + k then dnS X seed e.2.1 (nI i) (e.1 i) else e.1 i
  | 0, s, e, i => by
    rw [if_neg (by omega)]
    rfl
  | k + 1, s, e, i => by
    rw [goS, goS_sq k (s + 1) _ i]
    by_cases h : i = s
    · subst h
      rw [if_neg (by omega), if_pos (by omega)]
      show (if i = i then _ else _) = _
      rw [if_pos rfl]
    · by_cases h2 : s + 1 ≤ i ∧ i < s + 1 + k
      · rw [if_pos h2, if_pos (by omega)]
        show dnS X seed e.2.1 (nI i) (if i = s then _ else _) = _
        rw [if_neg h]
      · rw [if_neg h2, if_neg (by omega)]
        show (if i = s then _ else _) = _
        rw [if_neg h]
theorem mnI_sq {X : Xt} {seed : Int32} {i : Nat} (hi : i < xn X) : ∀ (k : Nat) (e : Es), (mnI X seed k e).1 i = dnI X seed (nI i) k e.2.1 (e.1 i)
  | 0, _ => rfl
  | k + 1, e => by
    rw [mnI, mnI_sq hi k, dnI]
    have h1 : (mnS X seed e).1 i = dnS X seed e.2.1 (nI i) (e.1 i) := by
      show (goS X seed (xn X) 0 e).1 i = _
      rw [goS_sq, if_pos (by omega)]
    have h2 : (mnS X seed e).2.1 = e.2.1 + 1 := by
      show (goS X seed (xn X) 0 e).2.1 + 1 = _
      rw [goS_min]
    rw [h1, h2]
/-- the class's evening is e -/
def EC (μ : Mm) (e : Es) : Prop := (∀ i, i < 4 → sqC μ i = e.1 i) ∧ gi μ 0 0 1 = e.2.1 ∧ gi μ 0 0 2 = e.2.2
/-- what evenings write in the class -/
def Sm (c i j : Nat) : Prop := (c = 5 ∧ i ≠ 4) ∨ c = 39 ∨ c = 40 ∨ (c = 0 ∧ (j = 1 ∨ j = 2))
theorem Sk_Sm : ∀ c i j, Sk c i j → Sm c i j := fun c i j h => by
  unfold Sk at h
  unfold Sm
  omega
theorem Tc_Sm : ∀ c i j, Tc c i → ¬ Sm c i j := fun c i j h q => by
  unfold Tc at h
  unfold Sm at q
  omega
theorem ag_pq {P : Nat → Nat → Nat → Prop} {μ : Mm} {i : Nat} {q : Tg × Int32 × Int32} (h : ∀ j, P 5 i j) : ag P μ (pq μ i q) := ⟨fun c k j w => pq_gi (fun z => w (by rw [z.1, z.2]; exact h j)), fun c k j => rfl⟩
theorem p_eveL {F T : Nat} {X : Xt} (hF : 1000 ≤ F) (hT : T < 2) (hX : Xok X) : ∀ (d n i : Nat) (μ : Mm) (e : Es), i + d = xn X → d < n → CT μ T X → EC μ e → eOk e → ∃ μ', fX0_passMinute_L2 F n T (nI i) μ = some μ' ∧ ag Sm μ μ' ∧ EC μ' ((goS X (xs X) d i e).1, (goS X (xs X) d i e).2.1 + 1, (goS X (xs X) d i e).2.2)
  | _, 0, _, _, _, _, h, _, _, _ => absurd h (Nat.not_lt_zero _)
  | 0, n + 1, i, μ, e, h1, h2, hC, hE, ho => by
    have h4 := hX.1
    rw [fX0_passMinute_L2, hC.1, if_pos (by rw [nn_le (by omega) (by omega)]; omega)]
    refine ⟨_, rfl, ag_si (Or.inr (Or.inr (Or.inr ⟨rfl, Or.inl rfl⟩))), fun k hk => ?_, ?_, ?_⟩
    · show sqC (si μ 0 0 1 _) k = e.1 k
      rw [← hE.1 k hk]
      simp [sqC, tgC, gi_si]
    · rw [gi_si, if_pos ⟨rfl, rfl, rfl⟩, hE.2.1]
      rfl
    · rw [gi_si, if_neg (by omega), hE.2.2]
      rfl
  | d + 1, n + 1, i, μ, e, h1, h2, hC, hE, ho => by
    have h4 := hX.1
    rw [fX0_passMinute_L2, hC.1, if_neg (by rw [nn_le (by omega) (by omega)]; omega), if_pos ((nn_inb (by omega)).mpr (by omega)), nn_cl (by omega)]
    have hq := hE.1 i (by omega)
    have ht : tgC μ i = (e.1 i).1 := congrArg Prod.fst hq
    have hr : gi μ 5 i 2 = (e.1 i).2.1 := congrArg (fun q => q.2.1) hq
    have hcl : gi μ 5 i 3 = (e.1 i).2.2 := congrArg (fun q => q.2.2) hq
    have tv : tV (tgC μ i) := by
      rw [ht]
      exact (ho i (by omega)).1
    obtain ⟨μ1, w1, w2⟩ := p_worth (F := F) (k := 2) (i := i) (number := nI i) (minute := gi μ 0 0 1) (moves := 0) hF hX hC (by decide) tv
    rw [show (2 : Int32) = nI 2 from rfl, w2, bd2_s, ht, hr, hcl, hE.2.1, hE.2.2]
    generalize hm2 : si μ1 0 0 2 (e.2.2 + wth X 2 (vrS (e.1 i).1 (e.1 i).2.1 e.2.1 (nI i) 0 (e.1 i).2.2)) = μ2
    have a2 : ag Sm μ μ2 := by
      rw [← hm2]
      exact ag_tr (ag_of w1 (fun c i j h => Sk_Sm c i j (Sv_Sk c i j h))) (ag_si (Or.inr (Or.inr (Or.inr ⟨rfl, Or.inr rfl⟩))))
    have n2 : ∀ c k j, ¬ Sv c k j → ¬ (c = 0 ∧ j = 2) → gi μ2 c k j = gi μ c k j := fun c k j g1 g2 => by
      rw [← hm2, gi_si, if_neg (fun w => g2 ⟨w.1, w.2.2⟩)]
      exact ag_n w1 g1
    have s2 : ∀ k, sqC μ2 k = sqC μ k := fun k => by
      unfold sqC tgC
      rw [n2 _ _ _ (by unfold Sv; omega) (by omega), n2 _ _ _ (by unfold Sv; omega) (by omega), n2 _ _ _ (by unfold Sv; omega) (by omega), n2 _ _ _ (by unfold Sv; omega) (by omega)]
    have hC2 := CT_ag hT hX a2 Tc_Sm hC
    obtain ⟨μ3, b1, b2⟩ := p_passC (F := F) (T := T) (i := i) (s := nI i) (minute := e.2.1) (seed := xs X) hF hT hX hC2 (by omega) (by rw [show tgC μ2 i = tgC μ i from congrArg Prod.fst (s2 i)]; exact tv)
    rw [n2 0 0 1 (by unfold Sv; omega) (by omega), hE.2.1, hC2.2.2.1, b2, bd1_s, nn_s, s2, hq]
    have a3 : ag Sm μ (pq μ3 i (dnS X (xs X) e.2.1 (nI i) (e.1 i))) := ag_tr (ag_tr a2 (ag_of b1 Sk_Sm)) (ag_pq (fun j => Or.inl ⟨rfl, by omega⟩))
    obtain ⟨μ', r1, r2, r3⟩ := p_eveL hF hT hX d n (i + 1) (pq μ3 i (dnS X (xs X) e.2.1 (nI i) (e.1 i))) (stS X (xs X) e i) (by omega) (by omega) (CT_ag hT hX a3 Tc_Sm hC) (by
      refine ⟨fun k hk => ?_, ?_, ?_⟩
      · show _ = if k = i then _ else _
        by_cases hki : k = i
        · rw [if_pos hki, hki, sqC_pq]
        · rw [if_neg hki, sqC_pq_ne hki, sqC_ag b1 (fun j => by unfold Sk; omega), s2]
          exact hE.1 k hk
      · rw [pq_gi (by omega), ag_n b1 (by unfold Sk; omega), n2 _ _ _ (by unfold Sv; omega) (by omega), hE.2.1]
        rfl
      · rw [pq_gi (by omega), ag_n b1 (by unfold Sk; omega), ← hm2, gi_si, if_pos ⟨rfl, rfl, rfl⟩]
        rfl) (stS_ok hX (by omega) ho)
    exact ⟨μ', r1, ag_tr a3 r2, r3⟩
theorem p_eveC {F T : Nat} {X : Xt} {μ : Mm} {e : Es} (hF : 1000 ≤ F) (hT : T < 2) (hX : Xok X) (hC : CT μ T X) (hE : EC μ e) (ho : eOk e) : ∃ μ', fX0_passMinute F T μ = some μ' ∧ ag Sm μ μ' ∧ EC μ' (mnS X (xs X) e) :=
  p_eveL hF hT hX (xn X) F 0 μ e (by omega) (by have := hX.1; omega) hC hE ho
/-! the reference -/
/-- a row of 14 ints of the reference is e, as far as n squares go -/
def RW (f : Nat → Int32) (n : Nat) (e : Es) : Prop := (∀ i, i < n → f i = enc (e.1 i).1) ∧ (∀ i, i < 4 → f (4 + i) = (e.1 i).2.1 ∧ f (8 + i) = (e.1 i).2.2) ∧ f 12 = e.2.1 ∧ f 13 = e.2.2
theorem RW_c {f g : Nat → Int32} {n : Nat} {e : Es} (hn : n ≤ 4) (h : ∀ z, z < 14 → g z = f z) (q : RW f n e) : RW g n e := by
  obtain ⟨q1, q2, q3, q4⟩ := q
  exact ⟨fun i hi => (h _ (by omega)).trans (q1 i hi), fun i hi => ⟨(h _ (by omega)).trans (q2 i hi).1, (h _ (by omega)).trans (q2 i hi).2⟩, (h _ (by omega)).trans q3, (h _ (by omega)).trans q4⟩
def rq (ν : Mm) (s : Nat) (q : Tg × Int32 × Int32) : Mm := si (si (si ν 76 0 (4 + s) q.2.1) 76 0 (8 + s) q.2.2) 76 0 s (enc q.1)
theorem rq_r {ν : Mm} {s : Nat} {r : Int32} {t : Tg} {c : Int32} (hs : s < 4) (h1 : gi ν 76 0 s = enc t) (h2 : gi ν 76 0 (8 + s) = c) : si ν 76 0 (4 + s) r = rq ν s (t, r, c) := by
  unfold rq
  show si ν 76 0 (4 + s) r = si (si (si ν 76 0 (4 + s) r) 76 0 (8 + s) c) 76 0 s (enc t)
  have e1 : c = gi (si ν 76 0 (4 + s) r) 76 0 (8 + s) := by
    rw [gi_si, if_neg (by omega), h2]
  rw [e1, si_same]
  have e2 : enc t = gi (si ν 76 0 (4 + s) r) 76 0 s := by
    rw [gi_si, if_neg (by omega), h1]
  rw [e2, si_same]
theorem p_movesOf {F S f : Nat} {X : Xt} {ν : Mm} (hS : gi ν 12 0 18 = nI S) (hS2 : S < 2) (hX : Xok X) (hR : RT ν S X) (hf : f < xm X) : fX12_movesOf F (nI f) ν = some (nI (xl X f), ν) := by
  have hm := hX.2.1
  unfold fX12_movesOf
  rw [p_rowAt hS, bd2_s, if_pos ((nn_inb (by omega)).mpr (by omega)), nn_cl (by omega), (hR.2.2.2.1 f hf).1]
theorem p_figN {F S : Nat} {X : Xt} {ν : Mm} (hS : gi ν 12 0 18 = nI S) (hS2 : S < 2) (hR : RT ν S X) : fX12_figuresNow F ν = some (nI (xm X), ν) := by
  unfold fX12_figuresNow
  rw [hS, if_pos ((nn_inb (by omega)).mpr hS2), nn_cl (by omega), hR.2.1]
theorem RT_Pl {ν ν' : Mm} {S : Nat} {X : Xt} (h : ag Pl ν ν') (q : RT ν S X) : RT ν' S X := RT_of (fun c j g1 g2 => ag_n h (by unfold Pl; omega)) q
theorem live_Pl {ν ν' : Mm} {S : Nat} (h : ag Pl ν ν') (q : gi ν 12 0 18 = nI S) : gi ν' 12 0 18 = nI S := (ag_n h (by unfold Pl; omega)).trans q
/-- LAWS of a square of the row -/
theorem p_restsR {F S s : Nat} {X : Xt} {ν : Mm} {t : Tg} (hF : 1000 ≤ F) (hS : gi ν 12 0 18 = nI S) (hS2 : S < 2) (hX : Xok X) (hR : RT ν S X) (hs : s < 4) (ht : tV t) (hr : gi ν 76 0 s = enc t) : ∃ ν', ag Pl ν ν' ∧ fX12_restsOf F (nI s) ν = some (wth X 1 (vrS t (gi ν 76 0 (4 + s)) (gi ν 76 0 12) (nI s) 0 (gi ν 76 0 (8 + s))), ν') := by
  obtain ⟨ν1, a1, a2, a3⟩ := p_looks (F := F) hF hs ht hr
  obtain ⟨ν2, b1, b2⟩ := p_tells (F := F) (k := 1) (pl := 1) hF (live_Pl a1 hS) hS2 hX (RT_Pl a1 hR) (by decide) rfl a3
  refine ⟨ν2, ag_tr a1 b1, ?_⟩
  unfold fX12_restsOf
  rw [a2, bd1_s, show (1 : Int32) = nI 1 from rfl] at *
  rw [show fX12_lawTells F (nI 1) (nI 1) ν1 = _ from b2, bd2_s, p_within (by decide), bd2_s]
  rfl
theorem p_paysR {F S s : Nat} {X : Xt} {ν : Mm} {t : Tg} (hF : 1000 ≤ F) (hS : gi ν 12 0 18 = nI S) (hS2 : S < 2) (hX : Xok X) (hR : RT ν S X) (hs : s < 4) (ht : tV t) (hr : gi ν 76 0 s = enc t) : ∃ ν', ag Pl ν ν' ∧ fX12_paysOf F (nI s) ν = some (wth X 2 (vrS t (gi ν 76 0 (4 + s)) (gi ν 76 0 12) (nI s) 0 (gi ν 76 0 (8 + s))), ν') := by
  obtain ⟨ν1, a1, a2, a3⟩ := p_looks (F := F) hF hs ht hr
  obtain ⟨ν2, b1, b2⟩ := p_tells (F := F) (k := 2) (pl := gi ν1 73 0 2) hF (live_Pl a1 hS) hS2 hX (RT_Pl a1 hR) (by decide) (by rw [a3 2 (by decide)]; rfl) a3
  refine ⟨ν2, ag_tr a1 b1, ?_⟩
  unfold fX12_paysOf
  rw [a2, bd1_s, show (2 : Int32) = nI 2 from rfl, b2, bd2_s, p_within (by decide), bd2_s]
  rfl
theorem p_slipsR {F S s : Nat} {X : Xt} {ν : Mm} {t : Tg} (hF : 1000 ≤ F) (hS : gi ν 12 0 18 = nI S) (hS2 : S < 2) (hX : Xok X) (hR : RT ν S X) (hs : s < 4) (ht : tV t) (hr : gi ν 76 0 s = enc t) : ∃ ν', ag Pl ν ν' ∧ fX12_slipsOf F (nI s) ν = some (wth X 3 (vrS t (gi ν 76 0 (4 + s)) (gi ν 76 0 12) (nI s) 0 (gi ν 76 0 (8 + s))), ν') := by
  obtain ⟨ν1, a1, a2, a3⟩ := p_looks (F := F) hF hs ht hr
  obtain ⟨ν2, b1, b2⟩ := p_tells (F := F) (k := 3) (pl := 0) hF (live_Pl a1 hS) hS2 hX (RT_Pl a1 hR) (by decide) rfl a3
  refine ⟨ν2, ag_tr a1 b1, ?_⟩
  unfold fX12_slipsOf
  rw [a2, bd1_s, show (3 : Int32) = nI 3 from rfl, b2, bd2_s, p_within (by decide), bd2_s]
  rfl
theorem p_tiresR {F S s f : Nat} {X : Xt} {ν : Mm} {t : Tg} (hF : 1000 ≤ F) (hS : gi ν 12 0 18 = nI S) (hS2 : S < 2) (hX : Xok X) (hR : RT ν S X) (hs : s < 4) (hf : f < xm X) (ht : tV t) (hr : gi ν 76 0 s = enc t) : ∃ ν', ag Pl ν ν' ∧ fX12_tiresOf F (nI s) (nI f) ν = some (tirS X (gi ν 76 0 12) (nI s) f (t, gi ν 76 0 (4 + s), gi ν 76 0 (8 + s)), ν') := by
  obtain ⟨ν1, a1, a2, a3⟩ := p_looks (F := F) hF hs ht hr
  have a4 : ag Pl ν1 (si ν1 73 0 7 (nI (xl X f))) := ag_si (Or.inl rfl)
  have a14 := ag_tr a1 a4
  obtain ⟨ν2, b1, b2⟩ := p_tells (F := F) (k := 0) (pl := gi (si ν1 73 0 7 (nI (xl X f))) 73 0 7) (ν := si ν1 73 0 7 (nI (xl X f))) (v := vrS t (gi ν 76 0 (4 + s)) (gi ν 76 0 12) (nI s) (nI (xl X f)) (gi ν 76 0 (8 + s))) hF (live_Pl a14 hS) hS2 hX (RT_Pl a14 hR) (by decide) (by rw [gi_si, if_pos ⟨rfl, rfl, rfl⟩]; rfl) (fun k hk => by
    rcases (show k = 7 ∨ k ≠ 7 by omega) with rfl | h7
    · rw [gi_si, if_pos ⟨rfl, rfl, rfl⟩]
      rfl
    · rw [gi_si, if_neg (by omega), a3 k hk]
      rcases (show k = 0 ∨ k = 1 ∨ k = 2 ∨ k = 3 ∨ k = 4 ∨ k = 5 ∨ k = 6 ∨ k = 8 by omega) with rfl | rfl | rfl | rfl | rfl | rfl | rfl | rfl <;> rfl)
  refine ⟨ν2, ag_tr a14 b1, ?_⟩
  unfold fX12_tiresOf
  rw [a2, bd1_s, p_movesOf (live_Pl a1 hS) hS2 hX (RT_Pl a1 hR) hf, bd2_s, show (0 : Int32) = nI 0 from rfl, b2, bd2_s, show (nI 0) = (0 : Int32) from rfl, p_within (by decide), bd2_s]
  rfl
/-- a FIGURE is called in the row -/
theorem p_callsR {F S s f N : Nat} {X : Xt} {ν : Mm} {q : Tg × Int32 × Int32} (hF : 1000 ≤ F) (hS : gi ν 12 0 18 = nI S) (hS2 : S < 2) (hX : Xok X) (hR : RT ν S X) (hs : s < 4) (hf : f < xm X) (hq : qOk q) (hN : N ≤ xl X f) (h0 : gi ν 76 0 s = enc q.1) (h4 : gi ν 76 0 (4 + s) = q.2.1) (h8 : gi ν 76 0 (8 + s) = q.2.2) :
    ((mkp (xv X f) N 0 q.1).1 = true → ∃ ν1, ag Pl ν ν1 ∧ fX12_calls F (nI s) (nI f) (nI N) ν = some (1, rq ν1 s ((mkp (xv X f) N 0 q.1).2, mn 999 (q.2.1 + tirS X (gi ν 76 0 12) (nI s) f q), q.2.2 + 1))) ∧
    ((mkp (xv X f) N 0 q.1).1 = false → fX12_calls F (nI s) (nI f) (nI N) ν = some (0, ν)) := by
  obtain ⟨x1, x2⟩ := hX.2.2.1 f hf
  have hm := hX.2.1
  have cb := p_calledBy (F := F) (m := xv X f) (S := S) (f := f) (N := N) (ν := ν) (t := q.1) hF (by omega) (by omega) hS (fun j hj => x2 j (by omega)) (fun j hj => (hR.2.2.2.1 f hf).2 j (by omega)) hq.1
  have tv := tV_mkp (m := xv X f) N 0 q.1 (fun j _ hj => x2 j (by omega)) hq.1
  unfold fX12_calls
  rw [if_pos ((nn_inb (by omega)).mpr (by omega)), nn_cl (by omega), h0, cb, bd2_s]
  generalize mkp (xv X f) N 0 q.1 = R at tv ⊢
  refine ⟨fun hb => ?_, fun hb => ?_⟩
  · have e : encO R = enc R.2 := by
      unfold encO
      rw [if_pos hb]
    obtain ⟨ν1, a1, a2⟩ := p_tiresR (F := F) hF hS hS2 hX hR hs hf hq.1 h0
    rw [e, if_pos (by rw [i_0le]; have := enc_nn tv; rw [i_lt0] at this; omega), show (4 : Int32) = nI 4 from rfl, show (8 : Int32) = nI 8 from rfl, nn_add, nn_add, if_pos ((nn_inb (a := 4 + s) (by omega)).mpr (by omega)), nn_cl (a := 4 + s) (by omega), a2, bd2_s, p_within (by decide), bd2_s, if_pos ((nn_inb (a := 8 + s) (by omega)).mpr (by omega)), nn_cl (a := 8 + s) (by omega), h4, h8]
    refine ⟨ν1, a1, ?_⟩
    have hco := call_ok (X := X) (minute := gi ν 76 0 12) (s := nI s) (f := f) (c := 0) hq hq.1
    rw [show mx 0 (mn 999 (q.2.1 + tirS X (gi ν 76 0 12) (nI s) f (q.1, q.2.1, q.2.2))) = mn 999 (q.2.1 + tirS X (gi ν 76 0 12) (nI s) f q) by
      have h9 := hco.2.1
      apply i_eq.mpr
      rw [tz_mx, z0]
      have h10 : 0 ≤ (mn 999 (q.2.1 + tirS X (gi ν 76 0 12) (nI s) f q)).toInt := h9
      show max 0 (mn 999 (q.2.1 + tirS X (gi ν 76 0 12) (nI s) f q)).toInt = _
      omega]
    rw [gi_si, if_neg (by omega), ag_n a1 (by unfold Pl; omega), h8]
    rfl
  · have e : encO R = -1 := by
      unfold encO
      rw [if_neg (by rw [hb]; decide)]
    rw [e, if_neg (by decide)]
theorem p_restR {F S s : Nat} {X : Xt} {ν : Mm} {q : Tg × Int32 × Int32} (hF : 1000 ≤ F) (hS : gi ν 12 0 18 = nI S) (hS2 : S < 2) (hX : Xok X) (hR : RT ν S X) (hs : s < 4) (hq : qOk q) (h0 : gi ν 76 0 s = enc q.1) (h4 : gi ν 76 0 (4 + s) = q.2.1) (h8 : gi ν 76 0 (8 + s) = q.2.2) : ∃ ν1, ag Pl ν ν1 ∧ fX12_dances_L72 F (nI s) 0 ν = some (rq ν1 s (rstS X (gi ν 76 0 12) (nI s) q)) := by
  obtain ⟨ν1, a1, a2⟩ := p_restsR (F := F) hF hS hS2 hX hR hs hq.1 h0
  refine ⟨ν1, a1, ?_⟩
  unfold fX12_dances_L72
  rw [if_pos rfl, show (4 : Int32) = nI 4 from rfl, nn_add, if_pos ((nn_inb (by omega)).mpr (by omega)), nn_cl (by omega), a2, bd2_s, p_within (by decide), bd2_s, h4, h8]
  have hb := wth_b X (k := 1) (by decide) (vrS q.1 q.2.1 (gi ν 76 0 12) (nI s) 0 q.2.2)
  have e : mx 0 (mn 999 (q.2.1 - wth X 1 (vrS q.1 q.2.1 (gi ν 76 0 12) (nI s) 0 q.2.2))) = mx 0 (q.2.1 - wth X 1 (vrS q.1 q.2.1 (gi ν 76 0 12) (nI s) 0 q.2.2)) := by
    generalize wth X 1 (vrS q.1 q.2.1 (gi ν 76 0 12) (nI s) 0 q.2.2) = w at hb ⊢
    obtain ⟨g1, g2, g3⟩ := hq
    apply i_eq.mpr
    rw [tz_mx, tz_mx, tz_mn, tz_sub (by omega), z0, show (999 : Int32).toInt = 999 from rfl]
    omega
  rw [e, rq_r hs ((ag_n a1 (by unfold Pl; omega)).trans h0) ((ag_n a1 (by unfold Pl; omega)).trans h8)]
  rfl
/-- a MINUTE of a square in the row -/
theorem p_dances {F S s : Nat} {X : Xt} {ν : Mm} {q : Tg × Int32 × Int32} (hF : 1000 ≤ F) (hS : gi ν 12 0 18 = nI S) (hS2 : S < 2) (hX : Xok X) (hR : RT ν S X) (hs : s < 4) (hq : qOk q) (h0 : gi ν 76 0 s = enc q.1) (h4 : gi ν 76 0 (4 + s) = q.2.1) (h8 : gi ν 76 0 (8 + s) = q.2.2) : ∃ ν1, ag Pl ν ν1 ∧ fX12_dances F (nI s) ν = some (rq ν1 s (dnS X (gi ν 12 0 47) (gi ν 76 0 12) (nI s) q)) := by
  have hm5 := hX.2.1
  unfold fX12_dances dnS
  rw [p_figN hS hS2 hR, bd2_s]
  by_cases hm : xm X = 0
  · rw [if_pos hm, hm, if_pos (by decide)]
    exact p_restR hF hS hS2 hX hR hs hq h0 h4 h8
  · rw [if_neg hm, if_neg (by rw [show (0 : Int32) = nI 0 from rfl, nn_le (by omega) (by omega)]; omega), p_figN hS hS2 hR, bd2_s, p_lotR (by rw [nI_toInt (by omega)]; omega), bd2_s]
    obtain ⟨f1, f2⟩ := dnF_lt (seed := gi ν 12 0 47) (minute := gi ν 76 0 12) (s := nI s) hX hm
    obtain ⟨x1, x2⟩ := hX.2.2.1 _ f1
    rw [f2, p_movesOf hS hS2 hX hR f1, bd2_s]
    -- with so many MOVES, from a row that stands as ν does
    have key : ∀ (N : Nat) (ν2 : Mm), N ≤ xl X (dnF X (gi ν 12 0 47) (gi ν 76 0 12) (nI s)) → ag Pl ν ν2 → ∃ ν1, ag Pl ν ν1 ∧ fX12_dances_L61 F (nI s) (nI (dnF X (gi ν 12 0 47) (gi ν 76 0 12) (nI s))) (nI N) ν2 = some (rq ν1 s (if (mkp (xv X (dnF X (gi ν 12 0 47) (gi ν 76 0 12) (nI s))) N 0 q.1).1 = true then ((mkp (xv X (dnF X (gi ν 12 0 47) (gi ν 76 0 12) (nI s))) N 0 q.1).2, mn 999 (q.2.1 + tirS X (gi ν 76 0 12) (nI s) (dnF X (gi ν 12 0 47) (gi ν 76 0 12) (nI s)) q), q.2.2 + 1) else rstS X (gi ν 76 0 12) (nI s) q)) := fun N ν2 hN a2 => by
      have n76 : ∀ j, gi ν2 76 0 j = gi ν 76 0 j := fun j => ag_n a2 (by unfold Pl; omega)
      obtain ⟨k1, k2⟩ := p_callsR (F := F) (N := N) hF (live_Pl a2 hS) hS2 hX (RT_Pl a2 hR) hs f1 hq hN ((n76 _).trans h0) ((n76 _).trans h4) ((n76 _).trans h8)
      unfold fX12_dances_L61
      cases hb : (mkp (xv X (dnF X (gi ν 12 0 47) (gi ν 76 0 12) (nI s))) N 0 q.1).1 with
      | true =>
        obtain ⟨ν3, b1, b2⟩ := k1 hb
        rw [b2, bd2_s, if_pos rfl, n76]
        unfold fX12_dances_L72
        rw [if_neg (by decide)]
        exact ⟨ν3, ag_tr a2 b1, rfl⟩
      | false =>
        rw [k2 hb, bd2_s, if_neg (by decide)]
        obtain ⟨ν3, b1, b2⟩ := p_restR (F := F) hF (live_Pl a2 hS) hS2 hX (RT_Pl a2 hR) hs hq ((n76 _).trans h0) ((n76 _).trans h4) ((n76 _).trans h8)
        rw [n76] at b2
        exact ⟨ν3, ag_tr a2 b1, b2⟩
    have k56 : ∀ ν2, ag Pl ν ν2 → fX12_dances_L56 F (nI s) (nI (dnF X (gi ν 12 0 47) (gi ν 76 0 12) (nI s))) ν2 = fX12_dances_L61 F (nI s) (nI (dnF X (gi ν 12 0 47) (gi ν 76 0 12) (nI s))) (nI (xl X (dnF X (gi ν 12 0 47) (gi ν 76 0 12) (nI s)))) ν2 := fun ν2 a2 => by
      unfold fX12_dances_L56
      rw [p_movesOf (live_Pl a2 hS) hS2 hX (RT_Pl a2 hR) f1, bd2_s]
    unfold dnN
    by_cases hl : xl X (dnF X (gi ν 12 0 47) (gi ν 76 0 12) (nI s)) = 0
    · rw [if_pos (by rw [hl]; decide), k56 ν ag_rfl]
      have k := key _ ν (Nat.le_refl _) ag_rfl
      rw [show (if wth X 3 (vrS q.1 q.2.1 (gi ν 76 0 12) (nI s) 0 q.2.2) ≤ lotS 100 (gi ν 12 0 47) (100000 + (8 * gi ν 76 0 12 + nI s)) then xl X (dnF X (gi ν 12 0 47) (gi ν 76 0 12) (nI s)) else xl X (dnF X (gi ν 12 0 47) (gi ν 76 0 12) (nI s)) - 1) = xl X (dnF X (gi ν 12 0 47) (gi ν 76 0 12) (nI s)) by
        split
        · rfl
        · rw [hl]]
      exact k
    · rw [if_neg (by rw [show (0 : Int32) = nI 0 from rfl, nn_le (by omega) (by omega)]; omega)]
      obtain ⟨ν2, a1, a2⟩ := p_slipsR (F := F) hF hS hS2 hX hR hs hq.1 h0
      unfold fX12_isSlip
      rw [p_lotR (by decide), bd2_s, a2, bd2_s, h4, h8, show (100000 + 8 * gi ν 76 0 12 + nI s) = 100000 + (8 * gi ν 76 0 12 + nI s) from Int32.add_assoc ..]
      by_cases hsl : wth X 3 (vrS q.1 q.2.1 (gi ν 76 0 12) (nI s) 0 q.2.2) ≤ lotS 100 (gi ν 12 0 47) (100000 + (8 * gi ν 76 0 12 + nI s))
      · rw [if_pos hsl, if_pos hsl, bd2_s, if_pos rfl, k56 ν2 a1]
        exact key _ ν2 (Nat.le_refl _) a1
      · rw [if_neg hsl, if_neg hsl, bd2_s, if_neg (by decide), p_movesOf (live_Pl a1 hS) hS2 hX (RT_Pl a1 hR) f1, bd2_s, show (1 : Int32) = nI 1 from rfl, nn_sub (by omega)]
        exact key _ ν2 (Nat.sub_le _ _) a1
