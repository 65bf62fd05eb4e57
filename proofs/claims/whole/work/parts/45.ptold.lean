def Tpo (c i j : Nat) : Prop := (41 ≤ c ∧ c ≤ 43) ∨ (c = 9 ∧ j = 0)
def Tro (c i j : Nat) : Prop := (84 ≤ c ∧ c ≤ 86) ∨ (c = 12 ∧ j = 66)
theorem IV_told {u s : Bool} {μ μ' ν ν' : Mm} (h1 : ag Tpo μ μ') (h2 : ag Tro ν ν') (h : TO μ' ν') (q : Inv u s μ ν) : Inv u s μ' ν' := by
  obtain ⟨T, S, X, e, q1, q2, q3⟩ := q
  have hn := q1.2.2.1.1
  have n1 : ∀ {c i j}, ¬ Tpo c i j → gi μ' c i j = gi μ c i j := fun h => ag_n h1 h
  have n2 : ∀ {c i j}, ¬ Tro c i j → gi ν' c i j = gi ν c i j := fun h => ag_n h2 h
  obtain ⟨a1, a2, a3, a4, a5, a6, a7, a8, a9, a10, a11, a12, a13⟩ := id q1
  exact ⟨T, S, X, e, IB_gen (ag_of h1 (fun c i j w => by unfold Tpo at w; unfold DG; omega)) (ag_of h2 (fun c i j w => by unfold Tro at w; unfold RG; omega)) (SL_ag hn (fun j => n1 (by unfold Tpo; omega)) (fun a j g => n1 (by unfold Tpo; omega)) (fun j => ⟨n2 (by unfold Tro; omega), n2 (by unfold Tro; omega)⟩) a9) (TA_ag (n1 (by unfold Tpo; omega)) (n2 (by unfold Tro; omega)) (fun j => n1 (by unfold Tpo; omega)) (fun j => n2 (by unfold Tro; omega)) a10) h q1, IE_ag hn h1 h2 (fun c i j w => by unfold Tpo at w; omega) (fun c i j w => by unfold Tro at w; omega) q2, HI_ag hn h1 h2 (fun c i j w => by unfold Tpo at w; omega) (fun c i j w => by unfold Tro at w; omega) q3⟩
theorem o_forget {F : Nat} : st2 Inv (fX11_forget F) (fX12_forget F) := fun u s μ ν q => by
  obtain ⟨T, S, X, e, q1, q2, q3⟩ := id q
  obtain ⟨K, hK, t1, t2, t3⟩ := q1.2.2.2.2.2.2.2.2.2.2.2.1
  unfold fX11_forget fX12_forget
  rw [t1, t2]
  exact ⟨_, _, _, rfl, rfl, IV_told (ag_si (Or.inr ⟨rfl, rfl⟩)) (ag_si (Or.inr ⟨rfl, rfl⟩)) ⟨0, by omega, gi_eq, gi_eq, fun j hj => absurd hj (Nat.not_lt_zero _)⟩ q⟩
theorem o_tell {F : Nat} (a b c : Int32) : st2 Inv (fX11_tell F a b c) (fX12_tell F a b c) := fun u s μ ν q => by
  obtain ⟨T, S, X, e, q1, q2, q3⟩ := id q
  obtain ⟨K, hK, t1, t2, t3⟩ := q1.2.2.2.2.2.2.2.2.2.2.2.1
  have n9 : ∀ (μ : Mm) (c j : Nat) (v : Int32), 41 ≤ c → gi (si μ c 0 j v) 9 0 0 = gi μ 9 0 0 := fun μ c j v h => gi_ne (by omega)
  have m9 : ∀ (μ : Mm) (c j : Nat) (v : Int32), 84 ≤ c → gi (si μ c 0 j v) 12 0 66 = gi μ 12 0 66 := fun μ c j v h => gi_ne (by omega)
  unfold fX11_tell fX9_add fX12_tell
  rw [t1, t2, show (20 : Int32) = nI 20 from rfl]
  by_cases w0 : K = 20
  · rw [if_pos (by rw [nn_le (by omega) (by omega)]; omega), if_pos (by rw [w0]), bd2_s]
    exact ⟨_, μ, ν, rfl, rfl, q⟩
  have wk : inb (nI K) 20 = true := (nn_inb (by omega)).mpr (by omega)
  rw [if_neg (by rw [nn_le (by omega) (by omega)]; omega), if_neg (show ¬ nI K = nI 20 by rw [nn_inj (by omega) (by omega)]; omega)]
  by_cases w1 : a.toInt < 1
  · rw [if_pos (show a < 1 from i_lt.mpr w1), p_in0 (x := 1) (y := 4) rfl rfl (by omega), bd2_s, bd2_s, if_pos rfl]
    exact ⟨_, μ, ν, rfl, rfl, q⟩
  rw [if_neg (fun z => w1 (show a.toInt < (1 : Int32).toInt from i_lt.mp z))]
  by_cases w2 : 4 < a.toInt
  · rw [if_pos (show 4 < a from i_lt.mpr w2), p_in0 (x := 1) (y := 4) rfl rfl (by omega), bd2_s, bd2_s, if_pos rfl]
    exact ⟨_, μ, ν, rfl, rfl, q⟩
  rw [if_neg (fun z => w2 (show (4 : Int32).toInt < a.toInt from i_lt.mp z)), p_in1 (x := 1) (y := 4) rfl rfl (by omega), bd2_s, if_neg n1_0]
  by_cases w3 : b.toInt < 0
  · rw [if_pos (i_lt0.mpr w3), p_in0 (x := 0) (y := 2) rfl rfl (by omega), bd2_s, bd2_s, if_pos rfl]
    exact ⟨_, μ, ν, rfl, rfl, q⟩
  rw [if_neg (fun z => w3 (i_lt0.mp z))]
  by_cases w4 : b.toInt ≤ 2
  · rw [if_pos (show b ≤ 2 from i_le.mpr w4), p_in1 (x := 0) (y := 2) rfl rfl (by omega), bd2_s, if_neg n1_0]
    simp only [n9 _ 41 _ _ (by decide), n9 _ 42 _ _ (by decide), n9 _ 43 _ _ (by decide), m9 _ 84 _ _ (by decide), m9 _ 85 _ _ (by decide), m9 _ 86 _ _ (by decide), t1, t2, if_pos wk, nn_s, gi_eq, nn_cl (show K < 2147483648 by omega), bd2_s]
    refine ⟨_, _, _, rfl, rfl, IV_told (ag_tr (ag_tr (ag_tr (ag_si (by unfold Tpo; omega)) (ag_si (by unfold Tpo; omega))) (ag_si (by unfold Tpo; omega))) (ag_si (by unfold Tpo; omega))) (ag_tr (ag_tr (ag_tr (ag_si (by unfold Tro; omega)) (ag_si (by unfold Tro; omega))) (ag_si (by unfold Tro; omega))) (ag_si (by unfold Tro; omega))) ⟨K + 1, by omega, gi_eq, gi_eq, fun j hj => ?_⟩ q⟩
    by_cases hj2 : j = K
    · subst hj2
      simp only [gi_si, true_and, if_true, and_true, if_false, reduceCtorEq, show ¬ (41 : Nat) = 42 by decide, show ¬ (41 : Nat) = 43 by decide, show ¬ (41 : Nat) = 9 by decide, show ¬ (42 : Nat) = 43 by decide, show ¬ (42 : Nat) = 9 by decide, show ¬ (43 : Nat) = 9 by decide, show ¬ (84 : Nat) = 85 by decide, show ¬ (84 : Nat) = 86 by decide, show ¬ (84 : Nat) = 12 by decide, show ¬ (85 : Nat) = 86 by decide, show ¬ (85 : Nat) = 12 by decide, show ¬ (86 : Nat) = 12 by decide, false_and]
      omega
    · have k1 := t3 j (by omega)
      simp only [gi_si, hj2, and_false, if_false, show ¬ (41 : Nat) = 9 by decide, show ¬ (42 : Nat) = 9 by decide, show ¬ (43 : Nat) = 9 by decide, show ¬ (84 : Nat) = 12 by decide, show ¬ (85 : Nat) = 12 by decide, show ¬ (86 : Nat) = 12 by decide, false_and]
      exact k1
  · rw [if_neg (fun z => w4 (show b.toInt ≤ (2 : Int32).toInt from i_le.mp z)), p_in0 (x := 0) (y := 2) rfl rfl (by omega), bd2_s, bd2_s, if_pos rfl]
    exact ⟨_, μ, ν, rfl, rfl, q⟩
/-! the closed square -/
theorem msb_lt (a : Int32) : a.toBitVec.msb = decide (a.toInt < 0) := by
  have : a.toInt = a.toBitVec.toInt := rfl
  rw [this, BitVec.msb_eq_toInt]
theorem xor_nn {a b : Int32} : 0 ≤ (a ^^^ b) ↔ (decide (a.toInt < 0) = decide (b.toInt < 0)) := by
  have h : ((a ^^^ b).toBitVec.msb) = (a.toBitVec.msb ^^ b.toBitVec.msb) := by
    rw [Int32.toBitVec_xor, BitVec.msb_xor]
  rw [msb_lt, msb_lt, msb_lt] at h
  rw [i_0le]
  by_cases h1 : a.toInt < 0 <;> by_cases h2 : b.toInt < 0 <;> simp [h1, h2] at h ⊢ <;> omega
def cqS (t : Tg) : Int32 := if t.1 = 0 then 0 else if 0 ≤ t.1 then irm t.2 t.1 else if 0 ≤ irm (-t.2) (-t.1) then irm (-t.2) (-t.1) else irm (-t.2) (-t.1) + -t.1
theorem p_cpC {F i : Nat} {μ : Mm} : fX5_closedP F i μ = some (ab (tgC μ i).1, μ) := rfl
theorem p_cqC {F i : Nat} {μ : Mm} (h : tV (tgC μ i)) : fX5_closedQ F i μ = some (cqS (tgC μ i), μ) := by
  obtain ⟨h1, h2, h3, h4, h5, h6⟩ := h
  unfold fX5_closedQ cqS fJ9_floorMod_7cf53
  rw [show gi μ 5 i 0 = (tgC μ i).1 from rfl, show gi μ 5 i 1 = (tgC μ i).2 from rfl]
  generalize hp : (tgC μ i).1 = p at *
  generalize hq : (tgC μ i).2 = y at *
  by_cases w0 : p = 0
  · rw [if_pos w0, if_pos w0]
  have w0' : p.toInt ≠ 0 := fun z => w0 (i_eq0.mpr z)
  rw [if_neg w0, if_neg w0]
  by_cases w1 : 0 ≤ p
  · rw [if_pos w1, if_pos w1, if_neg w0]
  have w1' : p.toInt < 0 := by
    rw [i_0le] at w1
    omega
  have np : (-p).toInt = -p.toInt := tz_neg (by omega)
  have ny : (-y).toInt = -y.toInt := tz_neg (by omega)
  have rr := tz_irm (-y) (-p)
  have hr : (irm (-y) (-p)).toInt ≤ 0 := by
    rw [rr, np, ny, Int.neg_tmod]
    have := Int.tmod_nonneg (-p.toInt) h3
    omega
  rw [if_neg w1, if_neg w1, if_neg (c := -p = 0) (by rw [i_eq0]; omega)]
  by_cases w2 : 0 ≤ irm (-y) (-p)
  · have w2' : irm (-y) (-p) = 0 := by
      rw [i_0le] at w2
      rw [i_eq0]
      omega
    rw [if_pos w2, if_pos w2']
    split <;> rfl
  · have w2' : ¬ irm (-y) (-p) = 0 := fun z => w2 (by rw [z]; decide)
    have y0 : 0 < y.toInt := by
      rcases (show y.toInt = 0 ∨ 0 < y.toInt by omega) with z | z
      · exact absurd (i_eq0.mpr (by rw [rr, ny, z]; simp)) w2'
      · exact z
    rw [if_neg w2, if_neg w2', if_neg (c := 0 ≤ (-y ^^^ -p)) (by rw [xor_nn, np, ny]; simp; omega), bd2_s, if_neg w0]
theorem p_cpR {F i : Nat} {ν : Mm} {t : Tg} (h : tV t) (hi : i < 4) (hg : gi ν 75 0 i = enc t) : fX12_closedP F (nI i) ν = some (ab t.1, ν) := by
  unfold fX12_closedP
  rw [if_pos ((nn_inb (by omega)).mpr (by omega)), nn_cl (by omega), hg, p_over h, bd2_s, p_off (by have := h.1; omega), bd2_s]
theorem ab_pos {p : Int32} (h : 0 ≤ p.toInt) : ab p = p := by
  rw [nn_ab (by omega), Int.natAbs_of_nonneg h |> fun z => show p.toInt.natAbs = p.toInt.toNat by omega]
  exact (nn_get h).symm
theorem ab_neg {p : Int32} (h : p.toInt < 0) (h2 : -2147483648 < p.toInt) : ab p = -p := by
  have e := tz_neg h2
  rw [nn_ab h2, show p.toInt.natAbs = (-p).toInt.toNat by omega]
  exact (nn_get (by omega)).symm
theorem p_cqR {F i : Nat} {ν : Mm} {t : Tg} (h : tV t) (hi : i < 4) (hg : gi ν 75 0 i = enc t) : fX12_closedQ F (nI i) ν = some (cqS t, ν) := by
  unfold fX12_closedQ cqS
  rw [p_cpR h hi hg, bd2_s, if_pos ((nn_inb (by omega)).mpr (by omega)), nn_cl (by omega), hg, p_under h, bd2_s]
  have hh := h
  obtain ⟨h1, h2, h3, h4, h5, h6⟩ := h
  by_cases w0 : t.1 = 0
  · rw [if_pos w0, if_pos (by rw [w0]; decide)]
  have w0' : t.1.toInt ≠ 0 := fun z => w0 (i_eq0.mpr z)
  have wa : ¬ ab t.1 = 0 := by
    rw [nn_ab (by omega), show (0 : Int32) = nI 0 from rfl, nn_inj (by omega) (by omega)]
    omega
  rw [if_neg w0, if_neg wa, hg, p_over hh, bd2_s]
  unfold fX12_closedQ_L42 fX12_restOf
  by_cases w1 : 0 ≤ t.1
  · have w1' := i_0le.mp w1
    rw [if_pos w1, if_pos w1, if_neg wa, ab_pos w1', if_pos (c := 0 ≤ irm t.2 t.1), bd2_s]
    rw [i_0le, tz_irm]
    exact Int.tmod_nonneg _ h3
  · have w1' : t.1.toInt < 0 := by
      rw [i_0le] at w1
      omega
    rw [if_neg w1, if_neg w1, if_neg wa, ab_neg w1' (by omega)]
    by_cases w2 : 0 ≤ irm (-t.2) (-t.1)
    · rw [if_pos w2, if_pos w2, bd2_s]
    · rw [if_neg w2, if_neg w2, bd2_s]
theorem o_closed {F : Nat} (a b : Int32) : st2 Inv (fX11_closed F a b) (fX12_closed F a b) := fun u s μ ν q => by
  obtain ⟨T, S, X, e, q1, q2, q3⟩ := id q
  unfold fX11_closed fX12_closed
  rcases p_sq (F := F) q1 a with ⟨i, hi, rfl, hc, hr⟩ | ⟨hc, hr⟩
  · rw [hc, hr, bd2_s, bd2_s, oel_s, if_neg n1_0]
    have h4 := q1.2.2.1.1
    obtain ⟨t1, t2, t3, t4, t5, t6, t7⟩ := IE_sq q2 hi h4
    have tv : tV (tgC μ i) := by rw [t1]; exact t4.1
    have g5 : gi ν 75 0 i = enc (tgC μ i) := by rw [t1]; exact t5
    rw [p_cpC, p_cqC tv, p_endsC, p_cpR tv (by omega) g5, p_cqR tv (by omega) g5]
    by_cases b0 : b = 0
    · rw [if_pos b0, if_pos b0]
      exact ⟨_, μ, ν, rfl, rfl, q⟩
    rw [if_neg b0, if_neg b0]
    by_cases b1 : b = 1
    · rw [if_pos b1, if_pos b1]
      exact ⟨_, μ, ν, rfl, rfl, q⟩
    rw [if_neg b1, if_neg b1]
    by_cases b2 : b = 2
    · rw [if_pos b2, if_pos b2, bd2_s, bd2_s]
      have k : (irm (ab (tgC μ i).1) 2 = 0) ↔ enS (tgC μ i) = 0 := by
        rw [irm2, nn_ab (by have := tv.1; omega), nI_toInt (by have := tv.1; have := tv.2.1; omega)]
        unfold enS
        by_cases z : (tgC μ i).1.toInt % 2 = 0
        · rw [if_pos z]
          simp
          omega
        · rw [if_neg z]
          have : ¬ ((tgC μ i).1.toInt.natAbs : Int) % 2 = 0 := by omega
          split <;> simp [this]
      by_cases w : enS (tgC μ i) = 0
      · rw [if_pos w, if_pos (k.mpr w)]
        exact ⟨_, μ, ν, rfl, rfl, q⟩
      · rw [if_neg w, if_neg (fun z => w (k.mp z))]
        exact ⟨_, μ, ν, rfl, rfl, q⟩
    rw [if_neg b2, if_neg b2]
    exact ⟨_, μ, ν, rfl, rfl, q⟩
  · rw [hc, hr, bd2_s, bd2_s, oel_n, if_pos rfl]
    exact ⟨_, μ, ν, rfl, rfl, q⟩
theorem o_alike {F : Nat} (a b : Int32) : st2 Inv (fX11_alike F a b) (fX12_alike F a b) := fun u s μ ν q => by
  obtain ⟨T, S, X, e, q1, q2, q3⟩ := id q
  unfold fX11_alike fX12_alike
  have h4 := q1.2.2.1.1
  rcases p_sq (F := F) q1 a with ⟨i, hi, rfl, hc, hr⟩ | ⟨hc, hr⟩
  · rw [hc, hr, bd2_s, bd2_s, oel_s, if_neg n1_0]
    rcases p_sq (F := F) q1 b with ⟨j, hj, rfl, gc, gr⟩ | ⟨gc, gr⟩
    · rw [gc, gr, bd2_s, bd2_s, oel_s, if_neg n1_0]
      obtain ⟨t1, t2, t3, t4, t5, t6, t7⟩ := IE_sq q2 hi h4
      obtain ⟨t1', t2', t3', t4', t5', t6', t7'⟩ := IE_sq q2 hj h4
      have tv : tV (tgC μ i) := by rw [t1]; exact t4.1
      have g5 : gi ν 75 0 i = enc (tgC μ i) := by rw [t1]; exact t5
      have tv' : tV (tgC μ j) := by rw [t1']; exact t4'.1
      have g5' : gi ν 75 0 j = enc (tgC μ j) := by rw [t1']; exact t5'
      have i4 : i < 4 := by omega
      have j4 : j < 4 := by omega
      simp only [p_cpC, p_cqC tv, p_cqC tv', p_cpR tv i4 g5, p_cqR tv i4 g5, p_cpR tv' j4 g5', p_cqR tv' j4 g5', bd2_s]
      unfold fX11_alike_L80
      by_cases w0 : ab (tgC μ i).1 = ab (tgC μ j).1
      · rw [if_pos w0, if_pos w0]
        by_cases w1 : cqS (tgC μ i) = cqS (tgC μ j)
        · rw [if_pos w1, if_pos w1]
          exact ⟨_, μ, ν, rfl, rfl, q⟩
        rw [if_neg w1, if_neg w1]
        by_cases w2 : ab (tgC μ i).1 ≤ 0
        · rw [if_pos w2, if_pos w2]
          exact ⟨_, μ, ν, rfl, rfl, q⟩
        have w3 : ¬ ab (tgC μ i).1 = 0 := fun z => w2 (by rw [z]; decide)
        rw [if_neg w2, if_neg w2, if_neg w3, if_neg w3]
        by_cases w4 : irm ((cqS (tgC μ i) * cqS (tgC μ j)) - 1) (ab (tgC μ i).1) = 0
        · rw [if_pos w4, if_pos w4]
          exact ⟨_, μ, ν, rfl, rfl, q⟩
        · rw [if_neg w4, if_neg w4]
          exact ⟨_, μ, ν, rfl, rfl, q⟩
      · rw [if_neg w0, if_neg w0]
        exact ⟨_, μ, ν, rfl, rfl, q⟩
    · rw [gc, gr, bd2_s, bd2_s, oel_n, if_pos rfl]
      exact ⟨_, μ, ν, rfl, rfl, q⟩
  · rw [hc, hr, bd2_s, bd2_s, oel_n, if_pos rfl]
    rcases p_sq (F := F) q1 b with ⟨j, hj, rfl, gc, gr⟩ | ⟨gc, gr⟩
    · rw [gc, bd2_s, oel_s]
      exact ⟨_, μ, ν, rfl, rfl, q⟩
    · rw [gc, bd2_s, oel_n]
      exact ⟨_, μ, ν, rfl, rfl, q⟩
theorem mul99 {x y : Int32} (a1 : -99 ≤ x.toInt) (a2 : x.toInt ≤ 99) (a3 : 0 ≤ y.toInt) (a4 : y.toInt ≤ 99) : (x * y).toInt = x.toInt * y.toInt ∧ -9801 ≤ x.toInt * y.toInt ∧ x.toInt * y.toInt ≤ 9801 := by
  have h : ∀ x y : Int, -99 ≤ x → x ≤ 99 → 0 ≤ y → y ≤ 99 → -9801 ≤ x * y ∧ x * y ≤ 9801 := fun x y a1 a2 a3 a4 => by
    have u1 : x * y ≤ 99 * y := Int.mul_le_mul_of_nonneg_right a2 a3
    have u2 : -99 * y ≤ x * y := Int.mul_le_mul_of_nonneg_right a1 a3
    omega
  obtain ⟨h1, h2⟩ := h _ _ a1 a2 a3 a4
  exact ⟨tz_mul (by omega), h1, h2⟩
theorem join_b {t v : Tg} (h : tV t) (h' : tV v) : -2147483648 < (t.1 * v.2 + v.1 * t.2).toInt := by
  obtain ⟨m1, m2, m3⟩ := mul99 h.1 h.2.1 h'.2.2.1 h'.2.2.2.1
  obtain ⟨n1, n2, n3⟩ := mul99 h'.1 h'.2.1 h.2.2.1 h.2.2.2.1
  generalize hx : t.1 * v.2 = x at *
  generalize hy : v.1 * t.2 = y at *
  rw [tz_add (by omega)]
  omega
theorem o_joined {F : Nat} (a b : Int32) : st2 Inv (fX11_joined F a b) (fX12_joined F a b) := fun u s μ ν q => by
  obtain ⟨T, S, X, e, q1, q2, q3⟩ := id q
  unfold fX11_joined fX12_joined fX11_joined_L22
  have h4 := q1.2.2.1.1
  rcases p_sq (F := F) q1 a with ⟨i, hi, rfl, hc, hr⟩ | ⟨hc, hr⟩
  · rw [hc, hr, bd2_s, bd2_s, oel_s, if_neg n1_0]
    rcases p_sq (F := F) q1 b with ⟨j, hj, rfl, gc, gr⟩ | ⟨gc, gr⟩
    · rw [gc, gr, bd2_s, bd2_s, oel_s, if_neg n1_0]
      have i14 : inb (nI i) 14 = true := (nn_inb (by omega)).mpr (by omega)
      have j14 : inb (nI j) 14 = true := (nn_inb (by omega)).mpr (by omega)
      have ii : (nI i).toNatClampNeg = i := nn_cl (by omega)
      have jj : (nI j).toNatClampNeg = j := nn_cl (by omega)
      rw [show gi μ 5 i 0 = (tgC μ i).1 from rfl, show gi μ 5 i 1 = (tgC μ i).2 from rfl, show gi μ 5 j 0 = (tgC μ j).1 from rfl, show gi μ 5 j 1 = (tgC μ j).2 from rfl]
      obtain ⟨t1, t2, t3, t4, t5, t6, t7⟩ := IE_sq q2 hi h4
      obtain ⟨t1', t2', t3', t4', t5', t6', t7'⟩ := IE_sq q2 hj h4
      have tv : tV (tgC μ i) := by rw [t1]; exact t4.1
      have g5 : gi ν 75 0 i = enc (tgC μ i) := by rw [t1]; exact t5
      have tv' : tV (tgC μ j) := by rw [t1']; exact t4'.1
      have g5' : gi ν 75 0 j = enc (tgC μ j) := by rw [t1']; exact t5'
      rw [if_pos i14, ii, g5, p_over tv, bd2_s, if_pos j14, jj, g5', p_under tv', bd2_s, g5', p_over tv', bd2_s, g5, p_under tv, bd2_s]
      have jb := join_b tv tv'
      generalize (tgC μ i).1 * (tgC μ j).2 + (tgC μ j).1 * (tgC μ i).2 = x at *
      rw [p_off jb, bd2_s]
      exact ⟨_, μ, ν, rfl, rfl, q⟩
    · rw [gc, gr, bd2_s, bd2_s, oel_n, if_pos rfl]
      exact ⟨_, μ, ν, rfl, rfl, q⟩
  · rw [hc, hr, bd2_s, bd2_s, oel_n, if_pos rfl]
    rcases p_sq (F := F) q1 b with ⟨j, hj, rfl, gc, gr⟩ | ⟨gc, gr⟩
    · rw [gc, bd2_s, oel_s]
      exact ⟨_, μ, ν, rfl, rfl, q⟩
    · rw [gc, bd2_s, oel_n]
      exact ⟨_, μ, ν, rfl, rfl, q⟩
