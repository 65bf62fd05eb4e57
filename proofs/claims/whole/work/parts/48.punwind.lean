/-! PURE: undoing -/
theorem fwF_fuel : ∀ (f g p q : Nat), q < f → q < g → fwF f p q = fwF g p q ∧ hmF f p q = hmF g p q
  | 0, _, _, _, h, _ => absurd h (Nat.not_lt_zero _)
  | _ + 1, 0, _, _, _, h => absurd h (Nat.not_lt_zero _)
  | f + 1, g + 1, p, q, h1, h2 => by
    unfold fwF hmF
    by_cases hq : q = 0
    · exact ⟨by rw [if_pos hq, if_pos hq], by rw [if_pos hq, if_pos hq]⟩
    · by_cases hr : p % q = 0
      · exact ⟨by rw [if_neg hq, if_neg hq, if_pos hr, if_pos hr], by rw [if_neg hq, if_neg hq, if_pos hr, if_pos hr]⟩
      · have h3 := Nat.mod_lt p (Nat.pos_of_ne_zero hq)
        obtain ⟨e1, e2⟩ := fwF_fuel f g q (p % q) (by omega) (by omega)
        obtain ⟨e3, e4⟩ := fwF_fuel f g q (q - p % q) (by omega) (by omega)
        exact ⟨by rw [if_neg hq, if_neg hq, if_neg hr, if_neg hr, e1, e3], by rw [if_neg hq, if_neg hq, if_neg hr, if_neg hr, e2, e4]⟩
theorem fw_s {p q : Nat} (hq : q ≠ 0) : fw p q = if p % q = 0 then p / q else min (p / q + fb q (p % q)) (p / q + 1 + fb q (q - p % q)) := by
  have h3 := Nat.mod_lt p (Nat.pos_of_ne_zero hq)
  show fwF (q + 1) p q = _
  unfold fwF
  rw [if_neg hq]
  by_cases hr : p % q = 0
  · rw [if_pos hr, if_pos hr]
  · have h4 : ¬ q - p % q = 0 := by omega
    rw [if_neg hr, if_neg hr]
    unfold fb fw
    rw [if_neg hr, if_neg h4, (fwF_fuel q (p % q + 1) q (p % q) (by omega) (by omega)).1, (fwF_fuel q (q - p % q + 1) q (q - p % q) (by omega) (by omega)).1]
theorem hm_s {p q : Nat} (hq : q ≠ 0) : hm p q = if p % q = 0 then 1 else wb q (p % q) + wb q (q - p % q) := by
  have h3 := Nat.mod_lt p (Nat.pos_of_ne_zero hq)
  show hmF (q + 1) p q = _
  unfold hmF
  rw [if_neg hq]
  by_cases hr : p % q = 0
  · rw [if_pos hr, if_pos hr]
  · have h4 : ¬ q - p % q = 0 := by omega
    rw [if_neg hr, if_neg hr]
    unfold wb hm
    rw [if_neg hr, if_neg h4, (fwF_fuel q (p % q + 1) q (p % q) (by omega) (by omega)).2, (fwF_fuel q (q - p % q + 1) q (q - p % q) (by omega) (by omega)).2]
theorem fw_le : ∀ (m p q : Nat), q < m → 1 ≤ q → fw p q ≤ p + 2 * q
  | 0, _, _, h, _ => absurd h (Nat.not_lt_zero _)
  | m + 1, p, q, h, h1 => by
    have h3 := Nat.mod_lt p (show 0 < q by omega)
    have h5 : p / q ≤ q * (p / q) := Nat.le_mul_of_pos_left _ h1
    have h6 := Nat.div_add_mod p q
    rw [fw_s (by omega)]
    by_cases hr : p % q = 0
    · rw [if_pos hr]
      omega
    · rw [if_neg hr]
      have i1 := fw_le m q (p % q) (by omega) (by omega)
      unfold fb
      rw [if_neg hr]
      omega
theorem fb_le {q r : Nat} (h : r < q) : fb q r ≤ 1 + q + 2 * r := by
  unfold fb
  by_cases hr : r = 0
  · rw [if_pos hr]
    omega
  · rw [if_neg hr]
    have := fw_le (r + 1) q r (by omega) (by omega)
    omega
def tri (q r : Nat) : Nat := q * (q - 1) / 2 + r
theorem tri_s (q : Nat) : (q + 1) * q / 2 = q * (q - 1) / 2 + q := by
  rcases Nat.eq_zero_or_pos q with rfl | h
  · rfl
  · obtain ⟨k, rfl⟩ : ∃ k, q = k + 1 := ⟨q - 1, by omega⟩
    rw [show (k + 1 + 1) * (k + 1) = (k + 1) * (k + 1 - 1) + 2 * (k + 1) by rw [Nat.add_sub_cancel]; simp only [Nat.mul_add, Nat.add_mul]; omega, Nat.add_mul_div_left _ _ (by omega)]
theorem tri_lt {q r q' r' : Nat} (h : q < q') (hr : r < q) : tri q r < tri q' r' := by
  unfold tri
  have h1 : (q + 1) * q / 2 ≤ q' * (q' - 1) / 2 := Nat.div_le_div_right (Nat.mul_le_mul (by omega) (by omega))
  rw [tri_s] at h1
  omega
theorem tri_b {q r : Nat} (h : q ≤ 99) (hr : r < q) : tri q r < 4950 ∧ q * (q - 1) ≤ 9702 := by
  have h1 : q * (q - 1) ≤ 99 * 98 := Nat.mul_le_mul (by omega) (by omega)
  unfold tri
  omega
theorem p_at {F q r : Nat} {μ : Mm} (h1 : 1 ≤ q) (h2 : q ≤ 99) (hr : r < q) : fX10_at F (nI q) (nI r) μ = some (nI (tri q r), μ) := by
  have hb := tri_b h2 hr
  unfold fX10_at
  rw [show (1 : Int32) = nI 1 from rfl, show (99 : Int32) = nI 99 from rfl, show (2 : Int32) = nI 2 from rfl, if_neg (c := nI q < nI 1) (by rw [nn_lt (by omega) (by omega)]; omega), if_neg (c := nI 99 < nI q) (by rw [nn_lt (by omega) (by omega)]; omega), if_neg (c := nI r < 0) (nn_neg (by omega)), if_neg (c := nI q ≤ nI r) (by rw [nn_le (by omega) (by omega)]; omega), nn_sub h1, nn_mul, nn_div (by omega) (by omega), nn_add]
  rfl
def F6 (μ : Mm) (q : Nat) : Prop := ∀ r, r < q → gi μ 46 0 (tri q r) = nI (fb q r)
def F7 (μ : Mm) (q : Nat) : Prop := ∀ r, r < q → gi μ 47 0 (tri q r) = wb q r
theorem nn_mn {a b : Nat} (ha : a < 2147483648) (hb : b < 2147483648) : mn (nI a) (nI b) = nI (min a b) := by
  rw [i_eq, tz_mn, nI_toInt ha, nI_toInt hb, nI_toInt (by omega)]
  omega
theorem p_few {F q : Nat} {p : Int32} {μ : Mm} (h1 : 1 ≤ q) (h2 : q ≤ 99) (hp : p.toInt.natAbs ≤ 99) (h : F6 μ q) : fX10_fewest F p (nI q) μ = some (nI (fw p.toInt.natAbs q), μ) := by
  unfold fX10_fewest
  rw [nn_ab (by omega)]
  generalize p.toInt.natAbs = P at *
  have w1 : (1 : Int32) ≤ nI q := by
    rw [show (1 : Int32) = nI 1 from rfl, nn_le (by omega) (by omega)]
    exact h1
  have w0 : ¬ nI q = 0 := by
    rw [show (0 : Int32) = nI 0 from rfl, nn_inj (by omega) (by omega)]
    omega
  have hr : P % q < q := Nat.mod_lt _ (by omega)
  have hd : P / q ≤ P := Nat.div_le_self _ _
  rw [if_pos w1, if_neg w0, if_neg w0, nn_irm (by omega) (by omega), p_at h1 h2 hr, bd2_s, if_pos ((nn_inb (by have := tri_b h2 hr; omega)).mpr (tri_b h2 hr).1), nn_div (by omega) (by omega), nn_cl (by have := tri_b h2 hr; omega), h _ hr, fw_s (by omega), show (0 : Int32) = nI 0 from rfl]
  by_cases z : P % q = 0
  · rw [if_pos (by rw [z]), if_pos z, z, nn_add]
    rfl
  · have hr2 : q - P % q < q := by omega
    have hb1 := fb_le hr
    have hb2 := fb_le hr2
    rw [if_neg (by rw [nn_inj (by omega) (by omega)]; exact z), if_neg z, if_neg (by rw [nn_inj (by omega) (by omega)]; omega), nn_sub (by omega), p_at h1 h2 hr2, bd2_s, if_pos ((nn_inb (by have := tri_b h2 hr2; omega)).mpr (tri_b h2 hr2).1), nn_cl (by have := tri_b h2 hr2; omega), h _ hr2, nn_s, nn_add, nn_add, nn_mn (by omega) (by omega)]
theorem p_how {F q : Nat} {p : Int32} {μ : Mm} (h1 : 1 ≤ q) (h2 : q ≤ 99) (hp : p.toInt.natAbs ≤ 99) (h : F7 μ q) : fX10_howMany F p (nI q) μ = some (hm p.toInt.natAbs q, μ) := by
  unfold fX10_howMany
  rw [nn_ab (by omega)]
  generalize p.toInt.natAbs = P at *
  have w1 : (1 : Int32) ≤ nI q := by
    rw [show (1 : Int32) = nI 1 from rfl, nn_le (by omega) (by omega)]
    exact h1
  have w0 : ¬ nI q = 0 := by
    rw [show (0 : Int32) = nI 0 from rfl, nn_inj (by omega) (by omega)]
    omega
  have hr : P % q < q := Nat.mod_lt _ (by omega)
  rw [if_pos w1, if_neg w0, nn_irm (by omega) (by omega), hm_s (by omega)]
  by_cases z : P % q = 0
  · rw [if_pos (c := nI (P % q) = 0) (by rw [z]; rfl), if_pos z, show (0 : Int32) = nI 0 from rfl, p_at h1 h2 (by omega), bd2_s, if_pos ((nn_inb (by have := tri_b h2 (show 0 < q by omega); omega)).mpr (tri_b h2 (by omega)).1), nn_cl (by have := tri_b h2 (show 0 < q by omega); omega), h _ (by omega)]
    rfl
  · have hr2 : q - P % q < q := by omega
    rw [if_neg (c := nI (P % q) = 0) (by rw [show (0 : Int32) = nI 0 from rfl, nn_inj (by omega) (by omega)]; exact z), if_neg z, p_at h1 h2 hr, bd2_s, if_pos ((nn_inb (by have := tri_b h2 hr; omega)).mpr (tri_b h2 hr).1), nn_sub (by omega), p_at h1 h2 hr2, bd2_s, if_pos ((nn_inb (by have := tri_b h2 hr2; omega)).mpr (tri_b h2 hr2).1), nn_cl (by have := tri_b h2 hr; omega), nn_cl (by have := tri_b h2 hr2; omega), h _ hr, h _ hr2]
/-! the class fills its tables -/
def Pu (c i j : Nat) : Prop := c = 46 ∨ c = 47
def IU (μ : Mm) (q : Nat) : Prop := (∀ q', 1 ≤ q' → q' < q → F6 μ q' ∧ F7 μ q') ∧ ∀ q', q ≤ q' → q' ≤ 99 → gi μ 46 0 (tri q' 0) = 0
theorem p_i43 {F q : Nat} {K : Int32 → Mm → Option Mm} (hF : 1000 ≤ F) (hq1 : 1 ≤ q) (hq : q ≤ 99) : ∀ (d n r : Nat) (μ : Mm), r + d = q → d < n → 1 ≤ r → IU μ q → (∀ r', r' < r → gi μ 46 0 (tri q r') = nI (fb q r') ∧ gi μ 47 0 (tri q r') = wb q r') → ∃ μ', fX10_init_L43 F K n (nI q) (nI r) μ = K (nI (q + 1)) μ' ∧ ag Pu μ μ' ∧ IU μ' (q + 1)
  | _, 0, _, _, _, h, _, _, _ => absurd h (Nat.not_lt_zero _)
  | 0, n + 1, r, μ, h1, h2, h3, hI, hr => by
    rw [fX10_init_L43, if_pos (by rw [nn_le (by omega) (by omega)]; omega), nn_s]
    refine ⟨μ, rfl, ag_rfl, fun q' g1 g2 => ?_, fun q' g1 g2 => hI.2 q' (by omega) g2⟩
    by_cases e : q' = q
    · subst e
      exact ⟨fun r' h => (hr r' (by omega)).1, fun r' h => (hr r' (by omega)).2⟩
    · exact hI.1 q' g1 (by omega)
  | d + 1, n + 1, r, μ, h1, h2, h3, hI, hr => by
    have hrq : r < q := by omega
    have tb := tri_b hq hrq
    obtain ⟨k6, k7⟩ := hI.1 r h3 hrq
    have ni : (nI q).toInt.natAbs = q := by
      rw [nI_toInt (by omega)]
      rfl
    have k7' : F7 (si μ 46 0 (tri q r) (nI (1 + fw q r))) r := fun r' g => by
      rw [gi_ne (by omega)]
      exact k7 r' g
    rw [fX10_init_L43, if_neg (by rw [nn_le (by omega) (by omega)]; omega), p_at hq1 hq hrq, bd2_s, p_few h3 (by omega) (by rw [ni]; exact hq) k6, bd2_s, if_pos ((nn_inb (by omega)).mpr tb.1), nn_cl (by omega), ni, show (1 : Int32) + nI (fw q r) = nI (1 + fw q r) from nn_add 1 _, p_at hq1 hq hrq, bd2_s, p_how h3 (by omega) (by rw [ni]; exact hq) k7', bd2_s, if_pos ((nn_inb (by omega)).mpr tb.1), nn_cl (by omega), ni, nn_s]
    have g : ag Pu μ (si (si μ 46 0 (tri q r) (nI (1 + fw q r))) 47 0 (tri q r) (hm q r)) := ag_tr (ag_si (Or.inl rfl)) (ag_si (Or.inr rfl))
    have keep : ∀ q' r', r' < q' → (q' < q ∨ (q' = q ∧ r' < r) ∨ (q < q')) → gi (si (si μ 46 0 (tri q r) (nI (1 + fw q r))) 47 0 (tri q r) (hm q r)) 46 0 (tri q' r') = gi μ 46 0 (tri q' r') ∧ gi (si (si μ 46 0 (tri q r) (nI (1 + fw q r))) 47 0 (tri q r) (hm q r)) 47 0 (tri q' r') = gi μ 47 0 (tri q' r') := fun q' r' g1 g2 => by
      have ne : tri q' r' ≠ tri q r := by
        rcases g2 with g2 | ⟨g2, g3⟩ | g2
        · have := tri_lt (r' := r) g2 g1
          omega
        · unfold tri
          rw [g2]
          omega
        · have := tri_lt (r' := r') g2 hrq
          omega
      exact ⟨by rw [gi_ne (by omega), gi_ne (by omega)], by rw [gi_ne (by omega), gi_ne (by omega)]⟩
    obtain ⟨μ', r1, r2, r3⟩ := p_i43 (K := K) hF hq1 hq d n (r + 1) (si (si μ 46 0 (tri q r) (nI (1 + fw q r))) 47 0 (tri q r) (hm q r)) (by omega) (by omega) (by omega) ⟨fun q' g1 g2 => ⟨fun r' g3 => (keep q' r' g3 (Or.inl g2)).1.trans ((hI.1 q' g1 g2).1 r' g3), fun r' g3 => (keep q' r' g3 (Or.inl g2)).2.trans ((hI.1 q' g1 g2).2 r' g3)⟩, fun q' g1 g2 => by
      rcases (show q' = q ∨ q < q' by omega) with e | e
      · rw [(keep q' 0 (by omega) (Or.inr (Or.inl ⟨e, by omega⟩))).1]
        exact hI.2 q' g1 g2
      · rw [(keep q' 0 (by omega) (Or.inr (Or.inr e))).1]
        exact hI.2 q' g1 g2⟩ (fun r' g1 => by
      by_cases e : r' = r
      · subst e
        rw [gi_ne (by omega), gi_eq, gi_eq]
        unfold fb wb
        rw [if_neg (by omega), if_neg (by omega)]
        exact ⟨rfl, rfl⟩
      · obtain ⟨x, y⟩ := keep q r' (by omega) (Or.inr (Or.inl ⟨rfl, by omega⟩))
        rw [x, y]
        exact hr r' (by omega))
    exact ⟨μ', r1, ag_tr g r2, r3⟩
theorem p_i24 {F : Nat} (hF : 1000 ≤ F) : ∀ (d n q : Nat) (μ : Mm), q + d = 100 → d < n → 1 ≤ q → IU μ q → ∃ μ', fX10_init_L24 F n (nI q) μ = some μ' ∧ ag Pu μ μ' ∧ UW μ'
  | _, 0, _, _, _, h, _, _ => absurd h (Nat.not_lt_zero _)
  | 0, n + 1, q, μ, h1, h2, h3, hI => by
    rw [fX10_init_L24, show (99 : Int32) = nI 99 from rfl, if_pos (by rw [nn_lt (by omega) (by omega)]; omega)]
    exact ⟨μ, rfl, ag_rfl, fun q' r g1 g2 g3 => ⟨(hI.1 q' g1 (by omega)).1 r g3, (hI.1 q' g1 (by omega)).2 r g3⟩⟩
  | d + 1, n + 1, q, μ, h1, h2, h3, hI => by
    have tb := tri_b (r := 0) (show q ≤ 99 by omega) (by omega)
    rw [fX10_init_L24, show (99 : Int32) = nI 99 from rfl, if_neg (by rw [nn_lt (by omega) (by omega)]; omega), show (0 : Int32) = nI 0 from rfl, p_at h3 (by omega) (by omega), bd2_s, if_pos ((nn_inb (by omega)).mpr tb.1), nn_cl (by omega)]
    obtain ⟨μ1, r1, r2, r3⟩ := p_i43 (q := q) (K := fun v1 μ => fX10_init_L24 F n v1 μ) hF h3 (by omega) (q - 1) F 1 (si μ 47 0 (tri q 0) 1) (by omega) (by omega) (by omega) ⟨fun q' g1 g2 => ⟨fun r' g3 => by
        rw [gi_ne (by omega)]
        exact (hI.1 q' g1 g2).1 r' g3, fun r' g3 => by
        have := tri_lt (r' := 0) g2 g3
        rw [gi_ne (by omega)]
        exact (hI.1 q' g1 g2).2 r' g3⟩, fun q' g1 g2 => by
        rw [gi_ne (by omega)]
        exact hI.2 q' g1 g2⟩ (fun r' g => by
        have e : r' = 0 := by omega
        subst e
        rw [gi_ne (by omega), gi_eq, hI.2 q (by omega) (by omega)]
        exact ⟨rfl, rfl⟩)
    rw [show (1 : Int32) = nI 1 from rfl] at *
    rw [r1]
    obtain ⟨μ', s1, s2, s3⟩ := p_i24 hF d n (q + 1) μ1 (by omega) (by omega) (by omega) r3
    exact ⟨μ', s1, ag_tr (ag_tr (ag_si (Or.inr rfl)) r2) s2, s3⟩
/-! new cells -/
def Pq (c i j : Nat) : Prop := SC c i j ∨ c = 46 ∨ c = 47 ∨ c = 10 ∨ c = 4 ∨ c = 27 ∨ c = 28 ∨ (c = 11 ∧ (j = 10 ∨ j = 11))
theorem IB_new {T S : Nat} {X : Xt} {u s u' s' : Bool} {μ μ' ν ν' : Mm} (h1 : ∀ c i j, ¬ Pq c i j → gi μ' c i j = gi μ c i j) (h2 : ag SR ν ν') (hU : UI u' μ') (hS : SI s' X μ') (q : IB T S X u s μ ν) : IB T S X u' s' μ' ν' := by
  obtain ⟨a1, a2, a3, a4, a5, a6, a7, a8, a9, a10, a11, a12, a13, a14, a15, a16⟩ := q
  have n1 : ∀ {c i j}, ¬ Pq c i j → gi μ' c i j = gi μ c i j := fun h => h1 _ _ _ h
  have n2 : ∀ {c i j}, ¬ SR c i j → gi ν' c i j = gi ν c i j := fun h => ag_n h2 h
  refine ⟨a1, a2, a3, (n1 (by unfold Pq SC; omega)).trans a4, (n1 (by unfold Pq SC; omega)).trans a5, (n2 (by unfold SR; omega)).trans a6, CT_of a1 a3 (fun c i j w => n1 (fun z => by unfold Tc at w; unfold Pq SC at z; omega)) a7, RT_of (fun c j g1 g2 => n2 (by unfold SR; omega)) a8, SL_ag a3.1 (fun j => n1 (by unfold Pq SC; omega)) (fun a j g => n1 (by unfold Pq SC; omega)) (fun j => ⟨n2 (by unfold SR; omega), n2 (by unfold SR; omega)⟩) a9, TA_ag (n1 (by unfold Pq SC; omega)) (n2 (by unfold SR; omega)) (fun j => n1 (by unfold Pq SC; omega)) (fun j => n2 (by unfold SR; omega)) a10, ?_, TO_ag (n1 (by unfold Pq SC; omega)) (n2 (by unfold SR; omega)) (fun c j g1 g2 => n1 (by unfold Pq SC; omega)) (fun c j g1 g2 => n2 (by unfold SR; omega)) a12, fun t ht => ?_, fun k hk => (h2.2 _ _ _).trans (a14 k hk), hU, hS⟩
  · rw [n1 (by unfold Pq SC; omega), n2 (by unfold SR; omega)]
    exact a11
  · rw [n2 (by unfold SR; omega), n2 (by unfold SR; omega)]
    exact a13 t ht
theorem Inv_new {T S : Nat} {X : Xt} {e : Es} {u s u' s' : Bool} {μ μ' ν ν' : Mm} (h1 : ∀ c i j, ¬ Pq c i j → gi μ' c i j = gi μ c i j) (h2 : ag SR ν ν') (hU : UI u' μ') (hS : SI s' X μ') (q1 : IB T S X u s μ ν) (q2 : IE (xn X) e μ ν) (q3 : HI (xn X) μ ν) : Inv u' s' μ' ν' := by
  have n1 : ∀ {c i j}, ¬ Pq c i j → gi μ' c i j = gi μ c i j := fun h => h1 _ _ _ h
  have n2 : ∀ {c i j}, ¬ SR c i j → gi ν' c i j = gi ν c i j := fun h => ag_n h2 h
  have hn := q1.2.2.1.1
  refine ⟨T, S, X, e, IB_new h1 h2 hU hS q1, ⟨⟨fun i hi => ?_, (n1 (by unfold Pq SC; omega)).trans q2.1.2.1, (n1 (by unfold Pq SC; omega)).trans q2.1.2.2⟩, RW_c hn (fun z _ => n2 (by unfold SR; omega)) q2.2.1, q2.2.2⟩, ?_⟩
  · have k : ∀ j, gi μ' 5 i j = gi μ 5 i j := fun j => n1 (by unfold Pq SC; omega)
    show ((gi μ' 5 i 0, gi μ' 5 i 1), gi μ' 5 i 2, gi μ' 5 i 3) = _
    rw [k, k, k, k]
    exact q2.1.1 i hi
  · obtain ⟨L, nx, hs, b1, b2, b3, b4, b5, b6⟩ := q3
    refine ⟨L, nx, hs, b1, b2, (n1 (by unfold Pq SC; omega)).trans b3, (n1 (by unfold Pq SC; omega)).trans b4, (n2 (by unfold SR; omega)).trans b5, fun i hi => ?_⟩
    obtain ⟨c1, c2, c3⟩ := b6 i hi
    exact ⟨EA_ag (fun j => n1 (by unfold Pq SC; omega)) c1, RW_c hn (fun z _ => n2 (by unfold SR; omega)) c2, c3⟩
theorem zr_gi {μ : Mm} {c i c' i' j : Nat} (h : ¬ (c' = c ∧ i' = i)) : gi (zr μ c i) c' i' j = gi μ c' i' j := congrFun (zr_ne (μ := μ) h).1 j
theorem zr_0 {μ : Mm} {c i j : Nat} : gi (zr μ c i) c i j = 0 := congrFun (zr_eq (μ := μ) (c := c) (i := i)).1 j
theorem iX10_gi {μ : Mm} {c i j : Nat} (h : ¬ Pq c i j) : gi (iX10 μ) c i j = gi μ c i j := by
  unfold Pq at h
  unfold iX10 zrs
  show gi (zr (zr (zr μ 46 0) 47 0) 10 0) c i j = _
  rw [zr_gi (by omega), zr_gi (by omega), zr_gi (by omega)]
theorem p_newU {F T S : Nat} {X : Xt} {e : Es} {s : Bool} {μ ν : Mm} (hF : 1000 ≤ F) (q1 : IB T S X false s μ ν) (q2 : IE (xn X) e μ ν) (q3 : HI (xn X) μ ν) : ∃ μ', fX11_unwinding_a F μ = some μ' ∧ (∀ c i j, ¬ Pq c i j → gi μ' c i j = gi μ c i j) ∧ UW μ' ∧ Inv true s μ' ν := by
  obtain ⟨a1, a2, a3, a4, a5, a6, a7, a8, a9, a10, a11, a12, a13, a14, a15, a16⟩ := id q1
  have u0 : gi μ 11 0 11 = 0 := by
    rcases a15 with ⟨_, z⟩ | ⟨z, _⟩
    · exact z
    · cases z
  have z46 : ∀ j, gi (iX10 μ) 46 0 j = 0 := fun j => by
    unfold iX10 zrs
    show gi (zr (zr (zr μ 46 0) 47 0) 10 0) 46 0 j = _
    rw [zr_gi (by omega), zr_gi (by omega), zr_0]
  obtain ⟨m1, r1, r2, r3⟩ := p_i24 hF 99 F 1 (iX10 μ) (by omega) (by omega) (by omega) ⟨fun q' g1 g2 => by omega, fun q' _ _ => z46 _⟩
  have k : ∀ c i j, ¬ Pq c i j → gi (si m1 11 0 11 1) c i j = gi μ c i j := fun c i j w => by
    have w' := w
    unfold Pq at w'
    rw [gi_ne (by omega), ag_n r2 (by unfold Pu; omega), iX10_gi w]
  have kU : UW (si m1 11 0 11 1) := fun q r g1 g2 g3 => by
    rw [gi_ne (by omega), gi_ne (by omega)]
    exact r3 q r g1 g2 g3
  have q10 : ∀ c i j, (c = 27 ∨ c = 28 ∨ c = 4 ∨ (c = 11 ∧ j = 10)) → gi (si m1 11 0 11 1) c i j = gi μ c i j := fun c i j w => by
    rw [gi_ne (by omega), ag_n r2 (by unfold Pu; omega)]
    unfold iX10 zrs
    show gi (zr (zr (zr μ 46 0) 47 0) 10 0) c i j = _
    rw [zr_gi (by omega), zr_gi (by omega), zr_gi (by omega)]
  refine ⟨_, ?_, k, kU, Inv_new k ag_rfl (Or.inr ⟨rfl, gi_eq, kU⟩) (SI_ag (q10 _ _ _ (by omega)) ⟨q10 _ _ _ (by omega), q10 _ _ _ (by omega)⟩ (fun j => ⟨q10 _ _ _ (by omega), q10 _ _ _ (by omega)⟩) a16) q1 q2 q3⟩
  unfold fX11_unwinding_a fX10_init
  rw [if_pos u0, show (1 : Int32) = nI 1 from rfl, r1, bd1_s]
/-- a call that asks the tables of undoing -/
theorem mk_U {F : Nat} {a d : Int32} {fc : Int32 → Int32 → Mm → Option (Int32 × Mm)} {g : Mm → Option (Int32 × Mm)} (hF : 1000 ≤ F)
    (h : ∀ (T S : Nat) (X : Xt) (e : Es) (s u : Bool) (μ ν μ' : Mm) (i : Nat), IB T S X u s μ ν → IE (xn X) e μ ν → i < xn X → a = nI i → fX12_isSquare F a ν = some (1, ν) → UW μ' → tV (tgC μ i) → ∃ r, fc (gi μ 5 i 0) (gi μ 5 i 1) μ' = some (r, μ') ∧ g ν = some (r, ν))
    (h0 : ∀ ν : Mm, fX12_isSquare F a ν = some (0, ν) → g ν = some (d, ν)) :
    mkU Inv (fun μ => bd2 (fX11_squareAt F a μ) fun r3 μ2 => oel r3 (some (d, μ2)) (fun i5 => bd1 (fX11_unwinding F μ2) fun μ8 => bd2 (fc (gi μ8 5 i5 0) (gi μ8 5 i5 1) μ8) fun r12 μ11 => some (r12, μ11)))
      (fun μ => bd2 (fX11_squareAt F a μ) fun r3 μ2 => oel r3 (some (d, μ2)) (fun i5 => none))
      (fun μ => bd2 (fX11_squareAt F a μ) fun r3 μ2 => oel r3 (none) (fun i5 => bd1 (fX11_unwinding_a F μ2) fun μ8 => bd2 (fc (gi μ8 5 i5 0) (gi μ8 5 i5 1) μ8) fun r12 μ11 => some (r12, μ11))) g := fun s μ ν => by
  constructor
  · intro q
    obtain ⟨T, S, X, e, q1, q2, q3⟩ := id q
    rcases p_sq (F := F) q1 a with ⟨i, hi, ha, hc, hr⟩ | ⟨hc, hr⟩
    · have h4 := q1.2.2.1.1
      have u1 : gi μ 11 0 11 = 1 ∧ UW μ := by
        rcases q1.2.2.2.2.2.2.2.2.2.2.2.2.2.2.1 with ⟨z, _⟩ | ⟨_, z⟩
        · cases z
        · exact z
      obtain ⟨t1, t2, t3, t4, t5, t6, t7⟩ := IE_sq q2 hi h4
      obtain ⟨r, x, y⟩ := h T S X e s true μ ν μ i q1 q2 hi ha hr u1.2 (by rw [t1]; exact t4.1)
      refine ⟨r, μ, ν, ?_, y, q⟩
      show bd2 (fX11_squareAt F a μ) _ = _
      rw [hc, bd2_s, oel_s]
      unfold fX11_unwinding
      rw [if_neg (by rw [u1.1]; decide), bd1_s, x, bd2_s]
    · refine ⟨d, μ, ν, ?_, h0 ν hr, q⟩
      show bd2 (fX11_squareAt F a μ) _ = _
      rw [hc, bd2_s, oel_n]
  · intro q
    obtain ⟨T, S, X, e, q1, q2, q3⟩ := id q
    rcases p_sq (F := F) q1 a with ⟨i, hi, ha, hc, hr⟩ | ⟨hc, hr⟩
    · right
      have h4 := q1.2.2.1.1
      obtain ⟨μ', m1, m2, m3, m4⟩ := p_newU hF q1 q2 q3
      obtain ⟨t1, t2, t3, t4, t5, t6, t7⟩ := IE_sq q2 hi h4
      have g0 : gi μ' 5 i 0 = gi μ 5 i 0 := m2 _ _ _ (by unfold Pq SC; omega)
      have g1 : gi μ' 5 i 1 = gi μ 5 i 1 := m2 _ _ _ (by unfold Pq SC; omega)
      obtain ⟨r, x, y⟩ := h T S X e s false μ ν μ' i q1 q2 hi ha hr m3 (by rw [t1]; exact t4.1)
      refine ⟨r, μ', ν, ?_, y, m4⟩
      show bd2 (fX11_squareAt F a μ) _ = _
      rw [hc, bd2_s, oel_s, m1, bd1_s, g0, g1, x, bd2_s]
    · left
      refine ⟨d, μ, ν, ?_, h0 ν hr, q⟩
      show bd2 (fX11_squareAt F a μ) _ = _
      rw [hc, bd2_s, oel_n]
theorem enc_in {t : Tg} (h : tV t) : inb (enc t) 20000 = true := by
  rw [i_inb, enc_toInt h]
  obtain ⟨h1, h2, h3, h4, h5, h6⟩ := h
  omega
theorem o_least {F : Nat} (hF : 1000 ≤ F) (a : Int32) : mkU Inv (fX11_least F a) (fX11_least_n F a) (fX11_least_a F a) (fX12_least F a) := by
  refine mk_U (fc := fX10_fewest F) hF (fun T S X e s u μ ν μ' i q1 q2 hi ha hr hU tv => ?_) (fun ν hr => ?_)
  · obtain ⟨t1, t2, t3, t4, t5, t6, t7⟩ := IE_sq q2 hi q1.2.2.1.1
    have h4 := q1.2.2.1.1
    have hR := q1.2.2.2.2.2.2.2.2.2.2.2.2.1 _ tv
    unfold fX12_least
    rw [hr, bd2_s, if_neg n1_0, ha, if_pos ((nn_inb (by omega)).mpr (by omega)), nn_cl (by omega), t5, ← t1, if_pos (enc_in tv), hR.1, show gi μ 5 i 0 = (tgC μ i).1 from rfl, show gi μ 5 i 1 = (tgC μ i).2 from rfl]
    obtain ⟨h1, h2, h3, h4', h5, h6⟩ := tv
    generalize tgC μ i = t at *
    by_cases w : t.2.toInt = 0
    · have e1 := h6 w
      unfold fX10_fewest
      rw [show t.2 = 0 from i_eq0.mpr w, if_neg (by decide), e1]
      exact ⟨_, rfl, rfl⟩
    · obtain ⟨k, hk, hk2⟩ : ∃ k, t.2 = nI k ∧ t.2.toInt.natAbs = k := ⟨t.2.toInt.toNat, nn_get h3, by omega⟩
      rw [hk2, hk, p_few (by omega) (by omega) (by omega) (fun r hr => (hU k r (by omega) (by omega) hr).1)]
      exact ⟨_, rfl, rfl⟩
  · unfold fX12_least
    rw [hr, bd2_s, if_pos rfl]
theorem hm_0 {q : Nat} (h : q ≠ 0) : hm 0 q = 1 := by
  rw [hm_s h, Nat.zero_mod, if_pos rfl]
theorem o_ways {F : Nat} (hF : 1000 ≤ F) (a : Int32) : mkU Inv (fX11_ways F a) (fX11_ways_n F a) (fX11_ways_a F a) (fX12_ways F a) := by
  refine mk_U (fc := fX10_howMany F) hF (fun T S X e s u μ ν μ' i q1 q2 hi ha hr hU tv => ?_) (fun ν hr => ?_)
  · obtain ⟨t1, t2, t3, t4, t5, t6, t7⟩ := IE_sq q2 hi q1.2.2.1.1
    have h4 := q1.2.2.1.1
    have hR := q1.2.2.2.2.2.2.2.2.2.2.2.2.1 _ tv
    have e300 := enc_300 tv
    unfold fX12_ways
    rw [hr, bd2_s, if_neg n1_0, ha, if_pos ((nn_inb (by omega)).mpr (by omega)), nn_cl (by omega), t5, ← t1, if_pos (enc_in tv), hR.2, show gi μ 5 i 0 = (tgC μ i).1 from rfl, show gi μ 5 i 1 = (tgC μ i).2 from rfl]
    have v0 := tV_p0 tv
    obtain ⟨h1, h2, h3, h4', h5, h6⟩ := tv
    generalize tgC μ i = t at *
    by_cases w : t.2.toInt = 0
    · have e1 := h6 w
      unfold fX10_howMany
      rw [show t.2 = 0 from i_eq0.mpr w, if_neg (by decide), e1, if_neg (fun z => by have := e300.mp z; rw [this] at e1; exact absurd e1 (by decide))]
      exact ⟨_, rfl, rfl⟩
    · obtain ⟨k, hk, hk2⟩ : ∃ k, t.2 = nI k ∧ t.2.toInt.natAbs = k := ⟨t.2.toInt.toNat, nn_get h3, by omega⟩
      rw [hk2, hk, p_how (by omega) (by omega) (by omega) (fun r hr => (hU k r (by omega) (by omega) hr).2)]
      by_cases z : enc t = 300
      · have z1 := e300.mp z
        rw [if_pos z, z1, show (0 : Int32).toInt.natAbs = 0 from rfl, hm_0 (by omega)]
        exact ⟨_, rfl, rfl⟩
      · rw [if_neg z]
        exact ⟨_, rfl, rfl⟩
  · unfold fX12_ways
    rw [hr, bd2_s, if_pos rfl]
