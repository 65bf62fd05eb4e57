/-! PURE: a FIGURE is CALLED; a MINUTE of a SQUARE, both sides -/
/-- what a minute may write in the class beside the square: VARS, stacks, tried ones -/
def Sk (c i j : Nat) : Prop := (c = 5 ∧ 5 ≤ i) ∨ c = 39 ∨ c = 40
def pq (μ : Mm) (i : Nat) (q : Tg × Int32 × Int32) : Mm := si (si (pt μ i q.1) 5 i 2 q.2.1) 5 i 3 q.2.2
/-- a square of the class -/
def sqC (μ : Mm) (i : Nat) : Tg × Int32 × Int32 := (tgC μ i, gi μ 5 i 2, gi μ 5 i 3)
theorem sqC_pq {μ : Mm} {i : Nat} {q : Tg × Int32 × Int32} : sqC (pq μ i q) i = q := by
  unfold sqC pq tgC pt
  simp [gi_si]
theorem sqC_pq_ne {μ : Mm} {i i' : Nat} {q : Tg × Int32 × Int32} (h : i' ≠ i) : sqC (pq μ i q) i' = sqC μ i' := by
  unfold sqC pq tgC pt
  simp [gi_si, h]
theorem sqC_ag {P : Nat → Nat → Nat → Prop} {μ μ' : Mm} {i : Nat} (h : ag P μ μ') (hp : ∀ j, ¬ P 5 i j) : sqC μ' i = sqC μ i := by
  unfold sqC tgC
  rw [h.1 _ _ _ (hp 0), h.1 _ _ _ (hp 1), h.1 _ _ _ (hp 2), h.1 _ _ _ (hp 3)]
theorem pq_gi {μ : Mm} {i c k j : Nat} {q : Tg × Int32 × Int32} (h : ¬ (c = 5 ∧ k = i)) : gi (pq μ i q) c k j = gi μ c k j := by
  unfold pq pt
  rw [gi_si, if_neg (fun w => h ⟨w.1, w.2.1⟩), gi_si, if_neg (fun w => h ⟨w.1, w.2.1⟩), gi_si, if_neg (fun w => h ⟨w.1, w.2.1⟩), gi_si, if_neg (fun w => h ⟨w.1, w.2.1⟩)]
theorem pq_gj {μ : Mm} {i c k j : Nat} {q : Tg × Int32 × Int32} : gj (pq μ i q) c k j = gj μ c k j := rfl
theorem pq_r {μ : Mm} {i : Nat} {r : Int32} : si μ 5 i 2 r = pq μ i (tgC μ i, r, gi μ 5 i 3) := by
  unfold pq
  show si μ 5 i 2 r = si (si (pt μ i (tgC μ i)) 5 i 2 r) 5 i 3 (gi μ 5 i 3)
  rw [pt_same]
  have h : gi μ 5 i 3 = gi (si μ 5 i 2 r) 5 i 3 := by
    rw [gi_si, if_neg (by omega)]
  rw [h, si_same]
theorem p_takeT {F i a : Nat} {μ : Mm} : fX5_takeTangle F i a μ = some (pt μ i (tgC μ a)) := by
  unfold fX5_takeTangle pt tgC
  rw [show gi (si μ 5 i 0 (gi μ 5 a 0)) 5 a 1 = gi μ 5 a 1 by rw [gi_si, if_neg (by omega)]]
theorem ag_pt {P : Nat → Nat → Nat → Prop} {μ : Mm} {i : Nat} {t : Tg} (h : ∀ j, P 5 i j) : ag P μ (pt μ i t) := ag_tr (ag_si (h 0)) (ag_si (h 1))
theorem CT_ag {P : Nat → Nat → Nat → Prop} {μ μ' : Mm} {T : Nat} {X : Xt} (hT : T < 2) (hX : Xok X) (h : ag P μ μ') (hp : ∀ c i j, Tc c i → ¬ P c i j) (q : CT μ T X) : CT μ' T X := CT_of hT hX (fun c i j w => h.1 c i j (hp c i j w)) q
theorem Tc_Sk : ∀ c i j, Tc c i → ¬ Sk c i j := fun c i j h q => by
  unfold Tc at h
  unfold Sk at q
  omega
theorem Tc_Sv : ∀ c i j, Tc c i → ¬ Sv c i j := fun c i j h q => by
  unfold Tc at h
  unfold Sv at q
  omega
theorem Sv_Sk : ∀ c i j, Sv c i j → Sk c i j := fun c i j h => by
  unfold Sv at h
  unfold Sk
  omega
def tirS (X : Xt) (minute s : Int32) (f : Nat) (q : Tg × Int32 × Int32) : Int32 := wth X 0 (vrS q.1 q.2.1 minute s (nI (xl X f)) q.2.2)
theorem p_callsC {F T f i N : Nat} {X : Xt} {μ : Mm} {s minute mv : Int32} (hF : 1000 ≤ F) (hT : T < 2) (hX : Xok X) (hC : CT μ T X) (hf : f < xm X) (hi : i ≤ 4) (hv : tV (tgC μ i)) (hN : N ≤ xl X f) (hmv : mn mv (nI (xl X f)) = nI N) :
    ((mkp (xv X f) N 0 (tgC μ i)).1 = true → ∃ μ1, ag Sk μ μ1 ∧ fX8_calls F T (9 * T + 4 + f) i s minute mv μ = some (1, pq μ1 i ((mkp (xv X f) N 0 (tgC μ i)).2, mn 999 (gi μ 5 i 2 + tirS X minute s f (sqC μ i)), gi μ 5 i 3 + 1))) ∧
    ((mkp (xv X f) N 0 (tgC μ i)).1 = false → ∃ μ1, ag Sk μ μ1 ∧ fX8_calls F T (9 * T + 4 + f) i s minute mv μ = some (0, μ1)) := by
  obtain ⟨c1, c2, c3⟩ := hC.2.2.2.1 f hf
  obtain ⟨x1, x2⟩ := hX.2.2.1 f hf
  have a1 : ag Sk μ (pt μ (5 + T) (tgC μ i)) := ag_pt (fun j => Or.inl ⟨rfl, by omega⟩)
  have e5 : tgC (pt μ (5 + T) (tgC μ i)) (5 + T) = tgC μ i := tgC_pt
  have m1 := p_makes (F := F) (m := xv X f) (r := 9 * T + 4 + f) (i := 5 + T) (N := N) (a := mv) (μ := pt μ (5 + T) (tgC μ i)) hF (by omega) (by rw [a1.1 _ _ _ (by unfold Sk; omega), c1]; exact hmv) (fun j hj => x2 j (by omega)) (fun j hj => ⟨(a1.1 _ _ _ (by unfold Sk; omega)).trans (c2 j (by omega)).1, (a1.1 _ _ _ (by unfold Sk; omega)).trans (c2 j (by omega)).2⟩) (by rw [e5]; exact hv)
  rw [e5, pt_pt] at m1
  have start : fX8_calls F T (9 * T + 4 + f) i s minute mv μ = bd2 (some (b01 (mkp (xv X f) N 0 (tgC μ i)).1, pt μ (5 + T) (mkp (xv X f) N 0 (tgC μ i)).2)) fun r8 μ7 => if r8 = 0 then (some (0, μ7)) else (bd2 (fX8_worth F T 0 i s minute (gi μ7 3 (9 * T + 4 + f) 0) μ7) fun r13 μ12 => bd1 (fX5_takeTangle F i (5 + T) μ12) fun μ17 => some (1, si (si μ17 5 i 2 (mn 999 ((gi μ17 5 i 2) + r13))) 5 i 3 ((gi (si μ17 5 i 2 (mn 999 ((gi μ17 5 i 2) + r13))) 5 i 3) + 1))) := by
    unfold fX8_calls
    rw [p_takeT, bd1_s, m1]
  have a2 : ag Sk μ (pt μ (5 + T) (mkp (xv X f) N 0 (tgC μ i)).2) := ag_pt (fun j => Or.inl ⟨rfl, by omega⟩)
  have tv2 : tV (mkp (xv X f) N 0 (tgC μ i)).2 := tV_mkp N 0 _ (fun j _ hj => x2 j (by omega)) hv
  rw [start, bd2_s]
  generalize mkp (xv X f) N 0 (tgC μ i) = R at a2 tv2
  refine ⟨fun hb => ?_, fun hb => ?_⟩
  · rw [hb, show b01 true = 1 from rfl, if_neg (by decide)]
    have n2 : ∀ j, gi (pt μ (5 + T) R.2) 5 i j = gi μ 5 i j := fun j => a2.1 _ _ _ (by unfold Sk; omega)
    have t2 : tgC (pt μ (5 + T) R.2) i = tgC μ i := by
      unfold tgC
      rw [n2, n2]
    obtain ⟨μ', w1, w2⟩ := p_worth (F := F) (k := 0) (i := i) (number := s) (minute := minute) (moves := gi (pt μ (5 + T) R.2) 3 (9 * T + 4 + f) 0) hF hX (CT_ag hT hX a2 Tc_Sk hC) (by decide) (by rw [t2]; exact hv)
    rw [show (0 : Int32) = nI 0 from rfl, w2, bd2_s, p_takeT, bd1_s, t2, n2, n2, a2.1 3 _ _ (by unfold Sk; omega), c1]
    have e6 : tgC μ' (5 + T) = R.2 := by
      have e7 : tgC μ' (5 + T) = tgC (pt μ (5 + T) R.2) (5 + T) := by
        unfold tgC
        rw [w1.1 _ _ _ (by unfold Sv; omega), w1.1 _ _ _ (by unfold Sv; omega)]
      rw [e7, tgC_pt]
    refine ⟨μ', ag_tr a2 (ag_of w1 Sv_Sk), ?_⟩
    rw [e6]
    have n3 : ∀ j, gi μ' 5 i j = gi μ 5 i j := fun j => (w1.1 _ _ _ (by unfold Sv; omega)).trans (n2 j)
    have g2 : gi (pt μ' i R.2) 5 i 2 = gi μ 5 i 2 := by
      unfold pt
      rw [gi_si, if_neg (by omega), gi_si, if_neg (by omega), n3]
    have g3 : ∀ x, gi (si (pt μ' i R.2) 5 i 2 x) 5 i 3 = gi μ 5 i 3 := fun x => by
      unfold pt
      rw [gi_si, if_neg (by omega), gi_si, if_neg (by omega), gi_si, if_neg (by omega), n3]
    rw [g2, g3]
    rfl
  · rw [hb, show b01 false = 0 from rfl, if_pos rfl]
    exact ⟨_, a2, rfl⟩
/-! LOT -/
def mixS (h w : Int32) : Int32 := (((h ^^^ w) * 1103515245) + 12345) ^^^ (usr (((h ^^^ w) * 1103515245) + 12345) 15)
def lotS (n seed which : Int32) : Int32 := irm (usr (mixS (mixS seed 209) which) 1) n
theorem usr1 (x : Int32) : 0 ≤ (usr x 1).toInt := by
  have h := pk_ushr x 1 1 (by decide)
  have h2 : (usr x 1).toBitVec.toNat = x.toBitVec.toNat / 2 ^ 1 := h
  have h3 := x.toBitVec.isLt
  have h4 : (usr x 1).toInt = (usr x 1).toBitVec.toInt := rfl
  rw [h4, BitVec.toInt_eq_toNat_bmod, Int.bmod_def]
  split <;> omega
theorem irm_in {y : Int32} {n : Nat} (h1 : 0 ≤ y.toInt) (h : 0 < n) (h2 : n < 2147483648) : ∃ f, f < n ∧ irm y (nI n) = nI f := by
  have h3 := y.toInt_lt
  have e := nn_irm (a := y.toInt.toNat) (b := n) (by omega) h2
  rw [← nn_get h1] at e
  exact ⟨_, Nat.mod_lt _ h, e⟩
theorem lot_in {n : Nat} {seed which : Int32} (h : 0 < n) (h2 : n < 2147483648) : ∃ f, f < n ∧ lotS (nI n) seed which = nI f := irm_in (usr1 _) h h2
theorem p_lotC {F : Nat} {μ : Mm} {n seed which : Int32} (h : 0 < n.toInt) : fX8_lot F n seed which μ = some (lotS n seed which, μ) := by
  unfold fX8_lot fX8_mixed
  rw [bd2_s, bd2_s, if_neg (fun q => by have := i_le0.mp q; omega), if_neg (fun q => by have := i_eq0.mp q; omega)]
  rfl
theorem p_lotR {F : Nat} {ν : Mm} {n which : Int32} (h : 0 < n.toInt) : fX12_lotOf F which n ν = some (lotS n (gi ν 12 0 47) which, ν) := by
  unfold fX12_lotOf fX12_mixed
  rw [bd2_s, bd2_s, if_neg (fun q => by have := i_eq0.mp q; omega)]
  rfl
/-! a MINUTE of one SQUARE: what it comes to -/
def rstS (X : Xt) (minute s : Int32) (q : Tg × Int32 × Int32) : Tg × Int32 × Int32 := (q.1, mx 0 (q.2.1 - wth X 1 (vrS q.1 q.2.1 minute s 0 q.2.2)), q.2.2)
def dnF (X : Xt) (seed minute s : Int32) : Nat := (lotS (nI (xm X)) seed ((8 * minute) + s)).toNatClampNeg
def dnN (X : Xt) (seed minute s : Int32) (q : Tg × Int32 × Int32) : Nat :=
  if wth X 3 (vrS q.1 q.2.1 minute s 0 q.2.2) ≤ lotS 100 seed (100000 + ((8 * minute) + s)) then xl X (dnF X seed minute s) else xl X (dnF X seed minute s) - 1
def dnS (X : Xt) (seed minute s : Int32) (q : Tg × Int32 × Int32) : Tg × Int32 × Int32 :=
  if xm X = 0 then rstS X minute s q else
  if (mkp (xv X (dnF X seed minute s)) (dnN X seed minute s q) 0 q.1).1 = true then ((mkp (xv X (dnF X seed minute s)) (dnN X seed minute s q) 0 q.1).2, mn 999 (q.2.1 + tirS X minute s (dnF X seed minute s) q), q.2.2 + 1) else rstS X minute s q
/-- a square that may be: its tangle, how tired -/
def qOk (q : Tg × Int32 × Int32) : Prop := tV q.1 ∧ 0 ≤ q.2.1.toInt ∧ q.2.1.toInt ≤ 999
theorem dnF_lt {X : Xt} {seed minute s : Int32} (hX : Xok X) (h : ¬ xm X = 0) : dnF X seed minute s < xm X ∧ lotS (nI (xm X)) seed ((8 * minute) + s) = nI (dnF X seed minute s) := by
  have hm := hX.2.1
  obtain ⟨f, h1, h2⟩ := lot_in (n := xm X) (seed := seed) (which := (8 * minute) + s) (by omega) (by omega)
  unfold dnF
  rw [h2, nn_cl (by omega)]
  exact ⟨h1, rfl⟩
theorem rst_ok {X : Xt} {minute s : Int32} {q : Tg × Int32 × Int32} (hq : qOk q) : qOk (rstS X minute s q) := by
  obtain ⟨h1, h2, h3⟩ := hq
  have hb := wth_b X (k := 1) (by decide) (vrS q.1 q.2.1 minute s 0 q.2.2)
  refine ⟨h1, ?_, ?_⟩
  · show 0 ≤ (mx 0 _).toInt
    rw [tz_mx, z0]
    omega
  · show (mx 0 _).toInt ≤ 999
    rw [tz_mx, z0, tz_sub (by omega)]
    omega
theorem call_ok {X : Xt} {minute s c : Int32} {f : Nat} {u : Tg} {q : Tg × Int32 × Int32} (hq : qOk q) (hu : tV u) : qOk (u, mn 999 (q.2.1 + tirS X minute s f q), c) := by
  unfold tirS
  have hb := wth_b X (k := 0) (by decide) (vrS q.1 q.2.1 minute s (nI (xl X f)) q.2.2)
  generalize wth X 0 (vrS q.1 q.2.1 minute s (nI (xl X f)) q.2.2) = w at hb ⊢
  obtain ⟨h1, h2, h3⟩ := hq
  have e : (mn 999 (q.2.1 + w)).toInt = min 999 (q.2.1.toInt + w.toInt) := by
    rw [tz_mn, tz_add (by omega)]
    rfl
  refine ⟨hu, ?_, ?_⟩
  · show 0 ≤ (mn 999 (q.2.1 + w)).toInt
    rw [e]
    omega
  · show (mn 999 (q.2.1 + w)).toInt ≤ 999
    rw [e]
    omega
theorem dnN_le {X : Xt} {seed minute s : Int32} {q : Tg × Int32 × Int32} : dnN X seed minute s q ≤ xl X (dnF X seed minute s) := by
  unfold dnN
  split
  · exact Nat.le_refl _
  · exact Nat.sub_le _ _
theorem dn_ok {X : Xt} {seed minute s : Int32} {q : Tg × Int32 × Int32} (hX : Xok X) (hq : qOk q) : qOk (dnS X seed minute s q) := by
  unfold dnS
  by_cases hm : xm X = 0
  · rw [if_pos hm]
    exact rst_ok hq
  · rw [if_neg hm]
    have hf := (dnF_lt (seed := seed) (minute := minute) (s := s) hX hm).1
    have hN := dnN_le (X := X) (seed := seed) (minute := minute) (s := s) (q := q)
    generalize dnN X seed minute s q = N at hN ⊢
    generalize dnF X seed minute s = f at hf hN ⊢
    obtain ⟨x1, x2⟩ := hX.2.2.1 _ hf
    split
    · exact call_ok hq (tV_mkp _ 0 _ (fun j _ hj => x2 j (by omega)) hq.1)
    · exact rst_ok hq
theorem p_rest {F T i : Nat} {X : Xt} {μ : Mm} {s minute : Int32} (hF : 1000 ≤ F) (hX : Xok X) (hC : CT μ T X) (hi : i ≤ 4) (hv : tV (tgC μ i)) : ∃ μ1, ag Sk μ μ1 ∧ fX8_passMinute_L89 F T i s minute μ = some (pq μ1 i (rstS X minute s (sqC μ i))) := by
  obtain ⟨μ', w1, w2⟩ := p_worth (F := F) (k := 1) (i := i) (number := s) (minute := minute) (moves := 0) hF hX hC (by decide) hv
  refine ⟨μ', ag_of w1 Sv_Sk, ?_⟩
  unfold fX8_passMinute_L89
  rw [show (1 : Int32) = nI 1 from rfl, w2, bd2_s, pq_r]
  unfold tgC rstS sqC
  rw [w1.1 _ _ _ (by unfold Sv; omega), w1.1 _ _ _ (by unfold Sv; omega), w1.1 _ _ _ (by unfold Sv; omega)]
  rfl
theorem ag_n {P : Nat → Nat → Nat → Prop} {μ μ' : Mm} (h : ag P μ μ') {c i j : Nat} (hp : ¬ P c i j) : gi μ' c i j = gi μ c i j := h.1 c i j hp
/-- a MINUTE of a SQUARE in the class -/
theorem p_passC {F T i : Nat} {X : Xt} {μ : Mm} {s minute seed : Int32} (hF : 1000 ≤ F) (hT : T < 2) (hX : Xok X) (hC : CT μ T X) (hi : i ≤ 4) (hv : tV (tgC μ i)) : ∃ μ1, ag Sk μ μ1 ∧ fX8_passMinute F T i s minute seed μ = some (pq μ1 i (dnS X seed minute s (sqC μ i))) := by
  have hm5 := hX.2.1
  unfold fX8_passMinute dnS
  rw [hC.2.1]
  by_cases hm : xm X = 0
  · rw [if_pos hm, hm, if_pos (by decide)]
    exact p_rest hF hX hC hi hv
  · rw [if_neg hm, if_neg (by rw [show (0 : Int32) = nI 0 from rfl, nn_le (by omega) (by omega)]; omega)]
    obtain ⟨f1, f2⟩ := dnF_lt (seed := seed) (minute := minute) (s := s) hX hm
    obtain ⟨x1, x2⟩ := hX.2.2.1 _ f1
    rw [p_lotC (by rw [nI_toInt (by omega)]; omega), bd2_s, f2, if_pos ((nn_inb (by omega)).mpr (by omega)), p_lotC (by decide), bd2_s, nn_cl (by omega)]
    obtain ⟨μ', w1, w2⟩ := p_worth (F := F) (k := 3) (i := i) (number := s) (minute := minute) (moves := 0) hF hX hC (by decide) hv
    rw [show (3 : Int32) = nI 3 from rfl, w2, bd2_s]
    have n1 : ∀ j, gi μ' 5 i j = gi μ 5 i j := fun j => ag_n w1 (by unfold Sv; omega)
    have t1 : tgC μ' i = tgC μ i := by
      unfold tgC
      rw [n1, n1]
    have s1 : sqC μ' i = sqC μ i := by
      unfold sqC
      rw [t1, n1, n1]
    have hC1 := CT_ag hT hX w1 Tc_Sv hC
    have key : ∀ (N : Nat) (mv : Int32), N ≤ xl X (dnF X seed minute s) → mn mv (nI (xl X (dnF X seed minute s))) = nI N → ∃ μ1, ag Sk μ μ1 ∧ fX8_passMinute_L74 F T i s minute (9 * T + 4 + dnF X seed minute s) mv μ' = some (pq μ1 i (if (mkp (xv X (dnF X seed minute s)) N 0 (sqC μ i).1).1 = true then ((mkp (xv X (dnF X seed minute s)) N 0 (sqC μ i).1).2, mn 999 ((sqC μ i).2.1 + tirS X minute s (dnF X seed minute s) (sqC μ i)), (sqC μ i).2.2 + 1) else rstS X minute s (sqC μ i))) := fun N mv hN hmv => by
      obtain ⟨k1, k2⟩ := p_callsC (F := F) (T := T) (f := dnF X seed minute s) (i := i) (s := s) (minute := minute) hF hT hX hC1 f1 hi (by rw [t1]; exact hv) hN hmv
      rw [t1] at k1 k2
      unfold fX8_passMinute_L74
      show ∃ μ1, ag Sk μ μ1 ∧ _ = some (pq μ1 i (if (mkp (xv X (dnF X seed minute s)) N 0 (tgC μ i)).1 = true then _ else _))
      cases hb : (mkp (xv X (dnF X seed minute s)) N 0 (tgC μ i)).1 with
      | true =>
        obtain ⟨μ1, b1, b2⟩ := k1 hb
        rw [b2, bd2_s, if_neg (by decide), if_pos rfl, n1, n1, s1]
        exact ⟨μ1, ag_tr (ag_of w1 Sv_Sk) b1, rfl⟩
      | false =>
        obtain ⟨μ1, b1, b2⟩ := k2 hb
        rw [b2, bd2_s, if_pos rfl, if_neg (by decide)]
        have t2 : tgC μ1 i = tgC μ i := by
          unfold tgC
          rw [ag_n b1 (by unfold Sk; omega), ag_n b1 (by unfold Sk; omega), n1, n1]
        have s2 : sqC μ1 i = sqC μ i := by
          unfold sqC
          rw [t2, ag_n b1 (by unfold Sk; omega), ag_n b1 (by unfold Sk; omega), n1, n1]
        obtain ⟨μ2, d1, d2⟩ := p_rest (F := F) (s := s) (minute := minute) hF hX (CT_ag hT hX b1 Tc_Sk hC1) hi (by rw [t2]; exact hv)
        rw [s2] at d2
        exact ⟨μ2, ag_tr (ag_tr (ag_of w1 Sv_Sk) b1) d1, d2⟩
    obtain ⟨c1, c2, c3⟩ := hC.2.2.2.1 _ f1
    rw [c1]
    show ∃ μ1, ag Sk μ μ1 ∧ (if wth X 3 (vrS (sqC μ i).1 (sqC μ i).2.1 minute s 0 (sqC μ i).2.2) ≤ lotS 100 seed (100000 + ((8 * minute) + s)) then _ else _) = _
    unfold dnN
    by_cases hs : wth X 3 (vrS (sqC μ i).1 (sqC μ i).2.1 minute s 0 (sqC μ i).2.2) ≤ lotS 100 seed (100000 + ((8 * minute) + s))
    · rw [if_pos hs, if_pos hs]
      exact key _ _ (Nat.le_refl _) (by
        apply i_eq.mpr
        rw [tz_mn]
        omega)
    · rw [if_neg hs, if_neg hs]
      refine key _ _ (Nat.sub_le _ _) ?_
      apply i_eq.mpr
      rw [tz_mn, tz_mx, z0, tz_sub (by rw [nI_toInt (by omega), show (1 : Int32).toInt = 1 from rfl]; omega), nI_toInt (by omega), nI_toInt (by omega), show (1 : Int32).toInt = 1 from rfl]
      omega
