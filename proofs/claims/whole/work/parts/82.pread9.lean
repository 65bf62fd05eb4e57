/-! PURE: read, LAWS as both read them; the class -/
def sbd {α β : Type} (x : Sum (Int32 × Int32) α) (f : α → Sum (Int32 × Int32) β) : Sum (Int32 × Int32) β := match x with
  | Sum.inl e => Sum.inl e
  | Sum.inr a => f a
theorem sbd_l {α β : Type} {e : Int32 × Int32} {f : α → Sum (Int32 × Int32) β} : sbd (Sum.inl e) f = Sum.inl e := rfl
theorem sbd_r {α β : Type} {a : α} {f : α → Sum (Int32 × Int32) β} : sbd (Sum.inr a) f = f a := rfl
def lwe (K : Nat → Tk) (t : Nat) : Sum (Int32 × Int32) (Nat × List Br × List Int32) := sbd (exs K t) fun x => sbd (adv K x.1 24) fun t2 => Sum.inr (t2, [], x.2)
def lwg (K : Nat → Tk) : Nat → Nat → Sum (Int32 × Int32) (Nat × List Br × List Int32)
  | 0, t => if tkd K t = 10 then Sum.inl (2, pl K t) else lwe K t
  | n + 1, t => if tkd K t = 10 then (sbd (adv K t 10) fun t0 => sbd (exs K t0) fun a => sbd (adv K a.1 30) fun t2 => sbd (exs K t2) fun b => sbd (adv K b.1 11) fun t4 => sbd (exs K t4) fun c => sbd (adv K c.1 12) fun t6 => sbd (lwg K n t6) fun r => Sum.inr (r.1, (a.2, b.2, c.2) :: r.2.1, r.2.2)) else lwe K t
theorem adv_r {K : Nat → Tk} {t k t' : Nat} (h : adv K t k = Sum.inr t') : t' = t + 1 ∧ t ≠ 400 ∧ tkd K t = k := by
  unfold adv at h
  split at h
  · rename_i y
    split at h
    · cases h
    · rename_i z
      injection h with h
      exact ⟨h.symm, z, y⟩
  · cases h
/-- what is done when a fault was found -/
def DgC (T : Nat) (f : Mm → Option Mm) : Prop := ∀ e μ, DdC T e μ → ∃ μ', f μ = some μ' ∧ fr (FE T) Q7 μ μ' ∧ DdC T e μ'
theorem dg_bd {T : Nat} {f g : Mm → Option Mm} (hf : DgC T f) (hg : DgC T g) : DgC T (fun μ => bd1 (f μ) g) := fun e μ h => by
  obtain ⟨μ1, a1, a2, a3⟩ := hf e μ h
  obtain ⟨μ2, b1, b2, b3⟩ := hg e μ1 a3
  refine ⟨μ2, ?_, fr_tr a2 b2, b3⟩
  show bd1 (f μ) g = some μ2
  rw [a1, bd1_s, b1]
theorem dg_some {T : Nat} : DgC T (fun μ => some μ) := fun e μ h => ⟨μ, rfl, fr_rfl, h⟩
theorem dg_take {F T : Nat} {k : Int32} : DgC T (fun μ => fX2_take F k μ) := fun e μ h => ⟨μ, p_takeCd h, fr_rfl, h⟩
theorem dg_sum {F T : Nat} (hF : 1000 ≤ F) (hT : T < 2) : DgC T (fun μ => fX2_readSum F μ) := fun e μ h => p_sumCd hF hT h
theorem p_addCd {F T : Nat} {e : Int32 × Int32} {x : Int32} {μ : Mm} (h : DdC T e μ) : ∃ μ', fX8_addCode F T x μ = some μ' ∧ fr (FL T) Q7 μ μ' ∧ DdC T e μ' := by
  obtain ⟨P, hP, h5⟩ := h.2.2.2.2
  by_cases y : P < 408
  · rw [p_addC h5 y]
    have f : fr (FL T) Q7 μ (si (si μ 37 T P x) 8 T 5 (nI (P + 1))) := fr_tr (fr_si (Or.inr (Or.inl ⟨rfl, rfl⟩))) (fr_si (Or.inr (Or.inr ⟨rfl, rfl, rfl⟩)))
    exact ⟨_, rfl, f, DdC_n f (fun j hj => by unfold FL; omega) ⟨P + 1, y, gi_eq⟩ h⟩
  · unfold fX8_addCode
    rw [h5, if_pos (by rw [show (408 : Int32) = nI 408 from rfl, nn_le (by omega) (by omega)]; omega)]
    exact ⟨μ, rfl, fr_rfl, h⟩
theorem FL_FE {T : Nat} : ∀ c i j, FL T c i j → FE T c i j := fun c i j h => by
  unfold FL at h
  unfold FE
  omega
theorem dg_add {F T : Nat} {x : Int32} (hT : T < 2) : DgC T (fun μ => fX8_addCode F (tx (gi μ 2 0 3)) x μ) := fun e μ h => by
  obtain ⟨μ', a1, a2, a3⟩ := p_addCd (F := F) (x := x) h
  refine ⟨μ', ?_, fr_of a2 FL_FE (fun c q => q), a3⟩
  show fX8_addCode F (tx (gi μ 2 0 3)) x μ = some μ'
  rw [h.2.2.1, tx_nI hT, a1]
theorem dg_send {F T : Nat} {r : Int32} (hT : T < 2) : DgC T (fun μ => fX8_sendHere F (tx (gi μ 2 0 3)) r μ) := fun e μ h => by
  obtain ⟨P, hP, h5⟩ := h.2.2.2.2
  show ∃ μ', fX8_sendHere F (tx (gi μ 2 0 3)) r μ = some μ' ∧ _
  rw [h.2.2.1, tx_nI hT]
  unfold fX8_sendHere
  by_cases y : r < 0
  · rw [if_pos y]
    exact ⟨μ, rfl, fr_rfl, h⟩
  rw [if_neg y, h5]
  by_cases z : nI P ≤ r
  · rw [if_pos z]
    exact ⟨μ, rfl, fr_rfl, h⟩
  rw [if_neg z]
  have y2 : 0 ≤ r.toInt := by
    rw [i_lt0] at y
    omega
  have z2 : r.toInt < P := by
    rw [i_le, nI_toInt (by omega)] at z
    omega
  rw [if_pos (i_inb.mpr (by omega))]
  have f : fr (FL T) Q7 μ (si μ 37 T r.toNatClampNeg (nI P)) := fr_si (Or.inr (Or.inl ⟨rfl, rfl⟩))
  exact ⟨_, rfl, fr_of f FL_FE (fun c q => q), DdC_n f (fun j hj => by unfold FL; omega) ⟨P, hP, (gi_ne (by omega)).trans h5⟩ h⟩
theorem dg_unless {F T : Nat} {g : Int32 → Mm → Option Mm} (hT : T < 2) (hg : ∀ r, DgC T (g r)) : DgC T (fun μ => bd2 (fX8_addUnless F (tx (gi μ 2 0 3)) μ) g) := fun e μ h => by
  obtain ⟨μ1, a1, a2, a3⟩ := p_addCd (F := F) (x := -14) h
  obtain ⟨μ2, b1, b2, b3⟩ := p_addCd (F := F) (x := 0) a3
  obtain ⟨μ3, c1, c2, c3⟩ := hg (gi μ2 8 T 5 - 1) e μ2 b3
  refine ⟨μ3, ?_, fr_tr (fr_of (fr_tr a2 b2) FL_FE (fun c q => q)) c2, c3⟩
  show bd2 (fX8_addUnless F (tx (gi μ 2 0 3)) μ) g = some μ3
  unfold fX8_addUnless
  rw [h.2.2.1, tx_nI hT, a1, bd1_s, b1, bd1_s, bd2_s, c1]
theorem dg_115 {F T : Nat} (hF : 1000 ≤ F) (hT : T < 2) : DgC T (fun μ => fX2_readLaw_L115 F μ) := by
  have h : DgC T (fun μ => bd1 (fX2_readSum F μ) fun μ13 => bd1 (fX8_addCode F (tx (gi μ13 2 0 3)) (-15) μ13) fun μ17 => bd1 (fX2_take F 24 μ17) fun μ20 => some μ20) := dg_bd (dg_sum hF hT) (dg_bd (dg_add hT) (dg_bd dg_take dg_some))
  exact h
theorem dg_L23 {F T m : Nat} {v2 : Int32} (hF : 1000 ≤ F) (hT : T < 2) : DgC T (fun μ => fX2_readLaw_L23 F (m + 1) v2 μ) := fun e μ h => by
  obtain ⟨μ', a1, a2, a3⟩ := dg_115 (F := F) hF hT e μ h
  refine ⟨μ', ?_, a2, a3⟩
  show fX2_readLaw_L23 F (m + 1) v2 μ = some μ'
  rw [fX2_readLaw_L23]
  by_cases y : 4 < v2
  · rw [if_pos y]
    exact a1
  · rw [if_neg y]
    unfold fX2_isAt
    rw [if_neg (dead_n h), bd2_s, if_pos rfl]
    exact a1
theorem seg_kp {μ μ' : Mm} {c i p P : Nat} {l : List Int32} (h : ∀ j, j < P → gi μ' c i j = gi μ c i j) (hp : p + l.length ≤ P) (q : seg μ c i p l) : seg μ' c i p l := fun k hk => (h _ (by omega)).trans (q k hk)
theorem p_isC {F T N t k : Nat} {K : Nat → Tk} {μ : Mm} (g : Gk K N) (h : LC T K N t μ) (hk : k < 35) : fX2_isAt F (nI k) μ = some (if tkd K t = k then 1 else 0, μ) := by
  have k34 := g.2.1 t
  unfold fX2_isAt
  rw [if_pos h.1, h.2.2.2.1.2.1]
  by_cases y : tkd K t = k
  · rw [if_pos (show nI (K t).1 = nI k by rw [show (K t).1 = k from y]), if_pos y]
  · rw [if_neg (show ¬ nI (K t).1 = nI k by rw [nn_inj (by omega) (by omega)]; exact y), if_neg y]
def LWC (T : Nat) (K : Nat → Tk) (N p : Nat) (r : Sum (Int32 × Int32) (Nat × List Br × List Int32)) (μ μ' : Mm) : Prop := match r with
  | Sum.inl e => DdC T e μ'
  | Sum.inr r => LC T K N r.1 μ' ∧ (∀ j, j < p → gi μ' 37 T j = gi μ 37 T j) ∧ ∃ P, gi μ' 8 T 5 = nI P ∧ P ≤ 6 + r.1 ∧ cEnc μ' T P r.2.1 r.2.2 p
/-- the last E of a LAW -/
theorem p_leC {F T N t p : Nat} {K : Nat → Tk} {μ : Mm} (hF : 1000 ≤ F) (hT : T < 2) (g : Gk K N) (hl : LC T K N t μ) (h5 : gi μ 8 T 5 = nI p) (hp : p ≤ 6 + t) : ∃ μ', fX2_readLaw_L115 F μ = some μ' ∧ fr (FE T) Q7 μ μ' ∧ LWC T K N p (lwe K t) μ μ' := by
  have tN : t ≤ 400 := Nat.le_trans hl.2.2.2.2 g.1.1
  obtain ⟨μ1, a1, a2, a3⟩ := p_sumC (F := F) (P := p) hF hT g (by omega) hl h5
  unfold lwe
  cases hx : exs K t with
  | inl e =>
    rw [hx] at a3
    have h : DgC T (fun μ13 => bd1 (fX8_addCode F (tx (gi μ13 2 0 3)) (-15) μ13) fun μ17 => bd1 (fX2_take F 24 μ17) fun μ20 => some μ20) := dg_bd (dg_add hT) (dg_bd dg_take dg_some)
    obtain ⟨μ', b1, b2, b3⟩ := h e μ1 a3
    unfold fX2_readLaw_L115
    rw [a1, bd1_s]
    exact ⟨μ', b1, fr_tr a2.1 b2, b3⟩
  | inr x =>
    rw [hx] at a3
    obtain ⟨l1, c5, sx⟩ := a3
    obtain ⟨x1, x2, x3, x4⟩ := exs_ok (K := K) g.2.2 (t := t) (t' := x.1) (l := x.2) hx tN
    have f2 : fr (FL T) Q7 μ1 (si (si μ1 37 T (p + x.2.length) (-15)) 8 T 5 (nI (p + x.2.length + 1))) := fr_tr (fr_si (Or.inr (Or.inl ⟨rfl, rfl⟩))) (fr_si (Or.inr (Or.inr ⟨rfl, rfl, rfl⟩)))
    have l2 := LC_FL f2 rfl l1
    obtain ⟨μ3, d1, d2, d3⟩ := p_takeC (F := F) (k := 24) (P := p + x.2.length + 1) g l2 (by omega) (by omega) gi_eq
    unfold fX2_readLaw_L115
    rw [a1, bd1_s, l1.2.1, tx_nI hT, p_addC c5 (by omega), bd1_s, show (24 : Int32) = nI 24 from rfl, d1, bd1_s, sbd_r]
    refine ⟨μ3, rfl, fr_tr a2.1 (fr_tr (fr_of f2 FL_FE (fun c q => q)) (fr_of d2 (fun c i j q => by unfold FA at q; unfold FE; omega) (fun c q => q))), ?_⟩
    cases hy : adv K x.1 24 with
    | inl e =>
      rw [hy] at d3
      exact d3
    | inr t2 =>
      rw [hy] at d3
      obtain ⟨rfl, _, _⟩ := adv_r hy
      have k3 : ∀ j, j < p + x.2.length + 1 → gi μ3 37 T j = gi (si (si μ1 37 T (p + x.2.length) (-15)) 8 T 5 (nI (p + x.2.length + 1))) 37 T j := fun j hj => fr_n d2 (by unfold FA; omega)
      refine ⟨d3, fun j hj => (k3 j (by omega)).trans ((gi_ne (by omega)).trans ((gi_ne (by omega)).trans (a2.2 j hj))), p + x.2.length + 1, (fr_n d2 (by unfold FA; omega)).trans gi_eq, by show p + x.2.length + 1 ≤ 6 + (x.1 + 1); omega, ?_, Nat.le_refl _⟩
      show seg μ3 37 T p (x.2 ++ [-15])
      rw [seg_app]
      refine ⟨fun k hk => (k3 _ (by omega)).trans ((gi_ne (by omega)).trans ((gi_ne (by omega)).trans (sx k hk))), fun k hk => ?_⟩
      simp only [List.length_singleton] at hk
      obtain rfl : k = 0 := by omega
      rw [k3 _ (by omega), gi_ne (by omega), Nat.add_zero, gi_eq]
      rfl
theorem p_lwC {F T N : Nat} {K : Nat → Tk} (hF : 1000 ≤ F) (hT : T < 2) (g : Gk K N) : ∀ (n t i m p : Nat) (μ : Mm), i + n = 4 → n + 1 < m → LC T K N t μ → gi μ 8 T 5 = nI p → p ≤ 6 + t → ∃ μ', fX2_readLaw_L23 F m (nI i) μ = some μ' ∧ fr (FE T) Q7 μ μ' ∧ LWC T K N p (lwg K n t) μ μ'
  | n, t, i, 0, p, μ, _, h, _, _, _ => absurd h (Nat.not_lt_zero _)
  | 0, t, i, m + 1, p, μ, hi, hm, hl, h5, hp => by
    have tN : t ≤ 400 := Nat.le_trans hl.2.2.2.2 g.1.1
    have i10 := p_isC (F := F) (k := 10) g hl (by omega)
    rw [show (nI 10 : Int32) = 10 from rfl] at i10
    rw [fX2_readLaw_L23, if_neg (by rw [show (4 : Int32) = nI 4 from rfl, nn_lt (by omega) (by omega)]; omega), i10, bd2_s]
    unfold lwg
    by_cases k10 : tkd K t = 10
    · rw [if_pos k10, if_neg n1_0, if_pos (by rw [show i = 4 by omega]; rfl), if_pos k10]
      obtain ⟨μ', b1, b2, b3⟩ := p_failC (F := F) (f := 2) hl.1 hl.2.1 (Or.inr rfl) (show p ≤ 408 by omega) h5
      rw [hl.2.2.2.1.2.2.1] at b3
      rw [b1, bd1_s]
      exact ⟨μ', rfl, fr_of b2 (fun c i j q => by unfold FA at q; unfold FE; omega) (fun c q => q), b3⟩
    · rw [if_neg k10, if_pos rfl, if_neg k10]
      exact p_leC hF hT g hl h5 hp
  | n + 1, t, i, m + 1, p, μ, hi, hm, hl, h5, hp => by
    have tN : t ≤ 400 := Nat.le_trans hl.2.2.2.2 g.1.1
    have i10 := p_isC (F := F) (k := 10) g hl (by omega)
    rw [show (nI 10 : Int32) = 10 from rfl] at i10
    rw [fX2_readLaw_L23, if_neg (by rw [show (4 : Int32) = nI 4 from rfl, nn_lt (by omega) (by omega)]; omega), i10, bd2_s]
    unfold lwg
    by_cases k10 : tkd K t = 10
    · rw [if_pos k10, if_neg n1_0, if_neg (show ¬ nI i = 4 by rw [show (4 : Int32) = nI 4 from rfl, nn_inj (by omega) (by omega)]; omega), if_pos k10]
      obtain ⟨mm, rfl⟩ : ∃ x, m = x + 1 := ⟨m - 1, by omega⟩
      have FAE : ∀ c i j, FA c i j → FE T c i j := fun c i j q => by unfold FA at q; unfold FE; omega
      have D7 : DgC T (fun μ60 => fX2_readLaw_L23 F (mm + 1) (nI i + 1) μ60) := dg_L23 hF hT
      have D6b : DgC T (fun μ57 => bd1 (fX2_take F 12 μ57) fun μ60 => fX2_readLaw_L23 F (mm + 1) (nI i + 1) μ60) := dg_bd dg_take D7
      have D6 : ∀ r46, DgC T (fun μ49 => bd1 (fX8_addCode F (tx (gi μ49 2 0 3)) (-15) μ49) fun μ53 => bd1 (fX8_sendHere F (tx (gi μ53 2 0 3)) r46 μ53) fun μ57 => bd1 (fX2_take F 12 μ57) fun μ60 => fX2_readLaw_L23 F (mm + 1) (nI i + 1) μ60) := fun r46 => dg_bd (dg_add hT) (dg_bd (dg_send hT) D6b)
      have D5 : ∀ r46, DgC T (fun μ45 => bd1 (fX2_readSum F μ45) fun μ49 => bd1 (fX8_addCode F (tx (gi μ49 2 0 3)) (-15) μ49) fun μ53 => bd1 (fX8_sendHere F (tx (gi μ53 2 0 3)) r46 μ53) fun μ57 => bd1 (fX2_take F 12 μ57) fun μ60 => fX2_readLaw_L23 F (mm + 1) (nI i + 1) μ60) := fun r46 => dg_bd (dg_sum hF hT) (D6 r46)
      have D4 : DgC T (fun μ41 => bd2 (fX8_addUnless F (tx (gi μ41 2 0 3)) μ41) fun r46 μ45 => bd1 (fX2_readSum F μ45) fun μ49 => bd1 (fX8_addCode F (tx (gi μ49 2 0 3)) (-15) μ49) fun μ53 => bd1 (fX8_sendHere F (tx (gi μ53 2 0 3)) r46 μ53) fun μ57 => bd1 (fX2_take F 12 μ57) fun μ60 => fX2_readLaw_L23 F (mm + 1) (nI i + 1) μ60) := dg_unless hT D5
      have D3 := dg_bd (dg_take (F := F) (T := T) (k := 11)) D4
      have D2 := dg_bd (dg_sum (F := F) hF hT) D3
      have D1 := dg_bd (dg_take (F := F) (T := T) (k := 30)) D2
      have D0 := dg_bd (dg_sum (F := F) hF hT) D1
      have dead : ∀ {f : Mm → Option Mm} {e : Int32 × Int32} {μ1 : Mm}, DgC T f → fr (FE T) Q7 μ μ1 → DdC T e μ1 → ∃ μ', f μ1 = some μ' ∧ fr (FE T) Q7 μ μ' ∧ DdC T e μ' := fun {f e μ1} hD hf hd => by
        obtain ⟨μ', q1, q2, q3⟩ := hD e μ1 hd
        exact ⟨μ', q1, fr_tr hf q2, q3⟩
      -- if
      obtain ⟨μ1, a1, a2, a3⟩ := p_takeC (F := F) (k := 10) (P := p) g hl (by omega) (by omega) h5
      rw [show (10 : Int32) = nI 10 from rfl, a1, bd1_s]
      have fr1 := fr_of a2 FAE (fun c q => q)
      cases h1 : adv K t 10 with
      | inl e =>
        rw [h1] at a3
        exact dead D0 fr1 a3
      | inr t0 =>
      rw [h1] at a3
      obtain ⟨rfl, _, _⟩ := adv_r h1
      rw [sbd_r]
      have k1 : ∀ j, j < p → gi μ1 37 T j = gi μ 37 T j := fun j hj => fr_n a2 (by unfold FA; omega)
      have c1 : gi μ1 8 T 5 = nI p := (fr_n a2 (by unfold FA; omega)).trans h5
      -- a
      obtain ⟨μ2, b1, b2, b3⟩ := p_sumC (F := F) (P := p) hF hT g (by omega) a3 c1
      rw [b1, bd1_s]
      have fr2 := fr_tr fr1 b2.1
      cases h2 : exs K (t + 1) with
      | inl e =>
        rw [h2] at b3
        exact dead D1 fr2 b3
      | inr a =>
      rw [h2] at b3
      obtain ⟨l2, c2, s2⟩ := b3
      obtain ⟨x1, x2, x3, x4⟩ := exs_ok (K := K) g.2.2 (t := t + 1) (t' := a.1) (l := a.2) h2 (Nat.le_trans a3.2.2.2.2 g.1.1)
      rw [sbd_r]
      have k2 : ∀ j, j < p → gi μ2 37 T j = gi μ 37 T j := fun j hj => (b2.2 j hj).trans (k1 j hj)
      -- <
      obtain ⟨μ3, d1, d2, d3⟩ := p_takeC (F := F) (k := 30) (P := p + a.2.length) g l2 (by omega) (by omega) c2
      rw [show (30 : Int32) = nI 30 from rfl, d1, bd1_s]
      have fr3 := fr_tr fr2 (fr_of d2 FAE (fun c q => q))
      cases h3 : adv K a.1 30 with
      | inl e =>
        rw [h3] at d3
        exact dead D2 fr3 d3
      | inr t2 =>
      rw [h3] at d3
      obtain ⟨rfl, _, _⟩ := adv_r h3
      rw [sbd_r]
      have c3 : gi μ3 8 T 5 = nI (p + a.2.length) := (fr_n d2 (by unfold FA; omega)).trans c2
      have k3 : ∀ j, gi μ3 37 T j = gi μ2 37 T j := fun j => fr_n d2 (by unfold FA; omega)
      -- b
      obtain ⟨μ4, e1, e2, e3⟩ := p_sumC (F := F) (P := p + a.2.length) hF hT g (by omega) d3 c3
      rw [e1, bd1_s]
      have fr4 := fr_tr fr3 e2.1
      cases h4 : exs K (a.1 + 1) with
      | inl e =>
        rw [h4] at e3
        exact dead D3 fr4 e3
      | inr b =>
      rw [h4] at e3
      obtain ⟨l4, c4, s4⟩ := e3
      obtain ⟨y1, y2, y3, y4⟩ := exs_ok (K := K) g.2.2 (t := a.1 + 1) (t' := b.1) (l := b.2) h4 (Nat.le_trans d3.2.2.2.2 g.1.1)
      rw [sbd_r]
      -- then
      obtain ⟨μ5, f1, f2, f3⟩ := p_takeC (F := F) (k := 11) (P := p + a.2.length + b.2.length) g l4 (by omega) (by omega) c4
      rw [show (11 : Int32) = nI 11 from rfl, f1, bd1_s]
      have fr5 := fr_tr fr4 (fr_of f2 FAE (fun c q => q))
      cases h5' : adv K b.1 11 with
      | inl e =>
        rw [h5'] at f3
        exact dead D4 fr5 f3
      | inr t4 =>
      rw [h5'] at f3
      obtain ⟨rfl, _, _⟩ := adv_r h5'
      rw [sbd_r]
      have c5 : gi μ5 8 T 5 = nI (p + a.2.length + b.2.length) := (fr_n f2 (by unfold FA; omega)).trans c4
      have k5 : ∀ j, gi μ5 37 T j = gi μ4 37 T j := fun j => fr_n f2 (by unfold FA; omega)
      -- unless
      generalize hQ : p + a.2.length + b.2.length = Q at c4 c5 f1
      unfold fX8_addUnless
      rw [f3.2.1, tx_nI hT, p_addC c5 (by omega), bd1_s, p_addC gi_eq (by omega), bd1_s, gi_eq, nn_1m, bd2_s]
      generalize hμ6 : si (si (si (si μ5 37 T Q (-14)) 8 T 5 (nI (Q + 1))) 37 T (Q + 1) 0) 8 T 5 (nI (Q + 1 + 1)) = μ6
      have g6 : fr (FL T) Q7 μ5 μ6 := by
        rw [← hμ6]
        exact fr_tr (fr_tr (fr_tr (fr_si (Or.inr (Or.inl ⟨rfl, rfl⟩))) (fr_si (Or.inr (Or.inr ⟨rfl, rfl, rfl⟩)))) (fr_si (Or.inr (Or.inl ⟨rfl, rfl⟩)))) (fr_si (Or.inr (Or.inr ⟨rfl, rfl, rfl⟩)))
      have fr6 := fr_tr fr5 (fr_of g6 FL_FE (fun c q => q))
      have l6 : LC T K N (b.1 + 1) μ6 := LC_FL g6 (by rw [← hμ6]; rfl) f3
      have c6 : gi μ6 8 T 5 = nI (Q + 2) := by rw [← hμ6, gi_eq]
      have k6 : ∀ j, j < Q → gi μ6 37 T j = gi μ5 37 T j := fun j hj => by
        rw [← hμ6, gi_ne (by omega), gi_ne (by omega), gi_ne (by omega), gi_ne (by omega)]
      have w6 : gi μ6 37 T Q = -14 := by
        rw [← hμ6, gi_ne (by omega), gi_ne (by omega), gi_ne (by omega), gi_eq]
      -- c
      obtain ⟨μ7, m1, m2, m3⟩ := p_sumC (F := F) (P := Q + 2) hF hT g (by omega) l6 c6
      rw [m1, bd1_s]
      have fr7 := fr_tr fr6 m2.1
      cases h7 : exs K (b.1 + 1) with
      | inl e =>
        rw [h7] at m3
        exact dead (D6 _) fr7 m3
      | inr c =>
      rw [h7] at m3
      obtain ⟨l7, c7, s7⟩ := m3
      obtain ⟨z1, z2, z3, z4⟩ := exs_ok (K := K) g.2.2 (t := b.1 + 1) (t' := c.1) (l := c.2) h7 (Nat.le_trans l6.2.2.2.2 g.1.1)
      rw [sbd_r, l7.2.1, tx_nI hT, p_addC c7 (by omega), bd1_s]
      generalize hμ8 : si (si μ7 37 T (Q + 2 + c.2.length) (-15)) 8 T 5 (nI (Q + 2 + c.2.length + 1)) = μ8
      have g8 : fr (FL T) Q7 μ7 μ8 := by
        rw [← hμ8]
        exact fr_tr (fr_si (Or.inr (Or.inl ⟨rfl, rfl⟩))) (fr_si (Or.inr (Or.inr ⟨rfl, rfl, rfl⟩)))
      have l8 : LC T K N c.1 μ8 := LC_FL g8 (by rw [← hμ8]; rfl) l7
      have c8 : gi μ8 8 T 5 = nI (Q + 2 + c.2.length + 1) := by rw [← hμ8, gi_eq]
      have k8 : ∀ j, j < Q + 2 + c.2.length → gi μ8 37 T j = gi μ7 37 T j := fun j hj => by
        rw [← hμ8, gi_ne (by omega), gi_ne (by omega)]
      have w8 : gi μ8 37 T (Q + 2 + c.2.length) = -15 := by
        rw [← hμ8, gi_ne (by omega), gi_eq]
      unfold fX8_sendHere
      rw [l8.2.1, tx_nI hT, if_neg (nn_neg (by omega)), c8, if_neg (by rw [nn_le (by omega) (by omega)]; omega), if_pos ((nn_inb (by omega)).mpr (by omega)), nn_cl (by omega), bd1_s]
      generalize hμ9 : si μ8 37 T (Q + 1) (nI (Q + 2 + c.2.length + 1)) = μ9
      have g9 : fr (FL T) Q7 μ8 μ9 := by
        rw [← hμ9]
        exact fr_si (Or.inr (Or.inl ⟨rfl, rfl⟩))
      have l9 : LC T K N c.1 μ9 := LC_FL g9 (by rw [← hμ9]; rfl) l8
      have c9 : gi μ9 8 T 5 = nI (Q + 2 + c.2.length + 1) := by rw [← hμ9, gi_ne (by omega), c8]
      have k9 : ∀ j, j ≠ Q + 1 → gi μ9 37 T j = gi μ8 37 T j := fun j hj => by
        rw [← hμ9, gi_ne (by omega)]
      have w9 : gi μ9 37 T (Q + 1) = nI (Q + 2 + c.2.length + 1) := by
        rw [← hμ9, gi_eq]
      have fr9 := fr_tr fr7 (fr_of (fr_tr g8 g9) FL_FE (fun c q => q))
      -- else
      obtain ⟨μ10, n1, n2, n3⟩ := p_takeC (F := F) (k := 12) (P := Q + 2 + c.2.length + 1) g l9 (by omega) (by omega) c9
      rw [show (12 : Int32) = nI 12 from rfl, n1, bd1_s]
      have fr10 := fr_tr fr9 (fr_of n2 FAE (fun c q => q))
      cases h8 : adv K c.1 12 with
      | inl e =>
        rw [h8] at n3
        exact dead D7 fr10 n3
      | inr t6 =>
      rw [h8] at n3
      obtain ⟨rfl, _, _⟩ := adv_r h8
      rw [sbd_r, nn_s]
      have c10 : gi μ10 8 T 5 = nI (Q + 2 + c.2.length + 1) := (fr_n n2 (by unfold FA; omega)).trans c9
      have k10 : ∀ j, gi μ10 37 T j = gi μ9 37 T j := fun j => fr_n n2 (by unfold FA; omega)
      obtain ⟨μ', o1, o2, o3⟩ := p_lwC hF hT g n (c.1 + 1) (i + 1) (mm + 1) (Q + 2 + c.2.length + 1) μ10 (by omega) (by omega) n3 c10 (by omega)
      refine ⟨μ', o1, fr_tr fr10 o2, ?_⟩
      cases h9 : lwg K n (c.1 + 1) with
      | inl e =>
        rw [h9] at o3
        exact o3
      | inr r =>
      rw [h9] at o3
      obtain ⟨q1, q2, P, q3, q4, q5⟩ := o3
      have kk : ∀ j, j < Q → gi μ' 37 T j = gi μ4 37 T j := fun j hj => (q2 j (by omega)).trans ((k10 j).trans ((k9 j (by omega)).trans ((k8 j (by omega)).trans ((m2.2 j (by omega)).trans ((k6 j hj).trans (k5 j))))))
      refine ⟨q1, fun j hj => (kk j (by omega)).trans ((e2.2 j (by omega)).trans ((k3 j).trans (k2 j hj))), P, q3, q4, Q + 2 + c.2.length + 1, by show Q + 2 + c.2.length + 1 = p + a.2.length + b.2.length + 2 + c.2.length + 1; omega, ?_, Nat.le_of_lt (cEnc_lt _ _ _ q5), q5⟩
      show seg μ' 37 T p (a.2 ++ (b.2 ++ [-14, nI (Q + 2 + c.2.length + 1)] ++ (c.2 ++ [-15])))
      rw [seg_app, seg_app, seg_app, seg_app]
      refine ⟨fun k hk => (kk _ (by omega)).trans ((e2.2 _ (by omega)).trans ((k3 _).trans (s2 k hk))), ⟨fun k hk => (kk _ (by omega)).trans (s4 k hk), fun k hk => ?_⟩, fun k hk => ?_, fun k hk => ?_⟩
      · simp only [List.length_cons, List.length_nil] at hk
        rcases (show k = 0 ∨ k = 1 by omega) with rfl | rfl
        · rw [hQ, Nat.add_zero, q2 _ (by omega), k10, k9 _ (by omega), k8 _ (by omega), m2.2 _ (by omega), w6]
          rfl
        · rw [hQ, q2 _ (by omega), k10, w9]
          rfl
      · simp only [List.length_append, List.length_cons, List.length_nil]
        rw [show p + a.2.length + (b.2.length + (0 + 1 + 1)) + k = Q + 2 + k by omega, q2 _ (by omega), k10, k9 _ (by omega), k8 _ (by omega)]
        exact s7 k hk
      · simp only [List.length_singleton] at hk
        obtain rfl : k = 0 := by omega
        simp only [List.length_append, List.length_cons, List.length_nil]
        rw [show p + a.2.length + (b.2.length + (0 + 1 + 1)) + c.2.length + 0 = Q + 2 + c.2.length by omega, q2 _ (by omega), k10, k9 _ (by omega), w8]
        rfl
    · rw [if_neg k10, if_pos rfl, if_neg k10]
      exact p_leC hF hT g hl h5 hp
