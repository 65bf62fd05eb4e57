/-! PURE: greatest divisors, squares on their own, counts -/
theorem gcd_st {a b : Nat} : Nat.gcd b (a % b) = Nat.gcd a b := by
  rw [Nat.gcd_comm a b, Nat.gcd_rec b a, Nat.gcd_comm]
theorem p_gcC1 {F n a b c : Nat} {μ : Mm} (ha : a < 2147483648) (hb : b < 2147483648) (hc : c < 100) : fX11_greatest_L7 F (n + 1) (nI a) (nI b) (nI c) μ = if b = 0 then some (nI a, μ) else fX11_greatest_L7 F n (nI b) (nI (a % b)) (nI (c + 1)) μ := by
  rw [fX11_greatest_L7, show (100 : Int32) = nI 100 from rfl, if_neg (by rw [nn_le (by omega) (by omega)]; omega)]
  by_cases h : b = 0
  · rw [if_pos (c := nI b = 0) (by rw [h]; rfl), if_pos h]
  · have w : ¬ nI b = 0 := by
      rw [show (0 : Int32) = nI 0 from rfl, nn_inj (by omega) (by omega)]
      exact h
    rw [if_neg w, if_neg w, if_neg h, nn_irm ha hb, nn_s]
theorem p_gcR1 {F n a b : Nat} {μ : Mm} (ha : a < 2147483648) (hb : b < 2147483648) : fX12_greatest_L4 F (n + 1) (nI a) (nI b) μ = if b = 0 then some (nI a, μ) else fX12_greatest_L4 F n (nI b) (nI (a % b)) μ := by
  rw [fX12_greatest_L4]
  by_cases h : b = 0
  · rw [if_pos (c := nI b = 0) (by rw [h]; rfl), if_pos h]
  · have w : ¬ nI b = 0 := by
      rw [show (0 : Int32) = nI 0 from rfl, nn_inj (by omega) (by omega)]
      exact h
    rw [if_neg w, if_neg w, if_neg h, nn_irm ha hb]
theorem mod_half {a b k : Nat} (hb : b < 2 ^ (k + 1)) (hr : a % b ≠ 0) (h0 : b ≠ 0) : b % (a % b) < 2 ^ k := by
  have h1 : a % b < b := Nat.mod_lt _ (by omega)
  generalize a % b = r at *
  rw [Nat.pow_succ] at hb
  have h2 : b % r < r := Nat.mod_lt _ (by omega)
  by_cases h : 2 * r ≤ b
  · omega
  · rw [Nat.mod_eq_sub_mod (by omega), Nat.mod_eq_of_lt (by omega)]
    omega
theorem p_gcC {F : Nat} {μ : Mm} : ∀ (k n a b c : Nat), b < 2 ^ k → a < 2147483648 → b < 2147483648 → c + 2 * k < 100 → 2 * k < n → fX11_greatest_L7 F n (nI a) (nI b) (nI c) μ = some (nI (Nat.gcd a b), μ)
  | 0, n, a, b, c, h, ha, hb, hc, hn => by
    obtain ⟨m, rfl⟩ : ∃ m, n = m + 1 := ⟨n - 1, by omega⟩
    have b0 : b = 0 := by simp at h; exact h
    rw [p_gcC1 ha hb (by omega), if_pos b0, b0, Nat.gcd_zero_right]
  | k + 1, n, a, b, c, h, ha, hb, hc, hn => by
    obtain ⟨m, rfl⟩ : ∃ m, n = m + 2 := ⟨n - 2, by omega⟩
    rw [p_gcC1 ha hb (by omega)]
    by_cases b0 : b = 0
    · rw [if_pos b0, b0, Nat.gcd_zero_right]
    have h1 : a % b < b := Nat.mod_lt _ (by omega)
    rw [if_neg b0, p_gcC1 hb (by omega) (by omega), ← gcd_st]
    by_cases r0 : a % b = 0
    · rw [if_pos r0, r0, Nat.gcd_zero_right]
    rw [if_neg r0, p_gcC k m (a % b) (b % (a % b)) (c + 1 + 1) (mod_half h r0 b0) (by omega) (Nat.lt_of_le_of_lt (Nat.mod_le _ _) hb) (by omega) (by omega), gcd_st]
theorem p_gcR {F : Nat} {μ : Mm} : ∀ (k n a b : Nat), b < 2 ^ k → a < 2147483648 → b < 2147483648 → 2 * k < n → fX12_greatest_L4 F n (nI a) (nI b) μ = some (nI (Nat.gcd a b), μ)
  | 0, n, a, b, h, ha, hb, hn => by
    obtain ⟨m, rfl⟩ : ∃ m, n = m + 1 := ⟨n - 1, by omega⟩
    have b0 : b = 0 := by simp at h; exact h
    rw [p_gcR1 ha hb, if_pos b0, b0, Nat.gcd_zero_right]
  | k + 1, n, a, b, h, ha, hb, hn => by
    obtain ⟨m, rfl⟩ : ∃ m, n = m + 2 := ⟨n - 2, by omega⟩
    rw [p_gcR1 ha hb]
    by_cases b0 : b = 0
    · rw [if_pos b0, b0, Nat.gcd_zero_right]
    have h1 : a % b < b := Nat.mod_lt _ (by omega)
    rw [if_neg b0, p_gcR1 hb (by omega), ← gcd_st]
    by_cases r0 : a % b = 0
    · rw [if_pos r0, r0, Nat.gcd_zero_right]
    rw [if_neg r0, p_gcR k m (a % b) (b % (a % b)) (mod_half h r0 b0) (by omega) (Nat.lt_of_le_of_lt (Nat.mod_le _ _) hb) (by omega), gcd_st]
theorem p_greC {F a b : Nat} {μ : Mm} (hF : 1000 ≤ F) (ha : a < 2147483648) (hb : b < 2147483648) : fX11_greatest F (nI a) (nI b) μ = some (nI (Nat.gcd a b), μ) := p_gcC 31 F a b 0 hb ha hb (by omega) (by omega)
theorem p_greR {F a b : Nat} {μ : Mm} (hF : 1000 ≤ F) (ha : a < 2147483648) (hb : b < 2147483648) : fX12_greatest F (nI a) (nI b) μ = some (nI (Nat.gcd a b), μ) := p_gcR 31 F a b hb ha hb (by omega)
theorem o_colours {F : Nat} (hF : 1000 ≤ F) (a b : Int32) : st2 Inv (fX11_colours F a b) (fX12_colours F a b) := fun u s μ ν q => by
  obtain ⟨T, S, X, e, q1, q2, q3⟩ := id q
  unfold fX11_colours fX12_colours fX11_isDivisor
  have h4 := q1.2.2.1.1
  rcases p_sq (F := F) q1 a with ⟨i, hi, rfl, hc, hr⟩ | ⟨hc, hr⟩
  · rw [hc, hr, bd2_s, bd2_s, oel_s, if_neg n1_0]
    by_cases w1 : b.toInt < 2
    · rw [if_pos (show b < 2 from i_lt.mpr w1), p_in0 (x := 2) (y := 97) rfl rfl (by omega), bd2_s, bd2_s, if_pos rfl, if_pos rfl]
      exact ⟨_, μ, ν, rfl, rfl, q⟩
    rw [if_neg (c := b < 2) (fun z => w1 (show b.toInt < (2 : Int32).toInt from i_lt.mp z))]
    by_cases w2 : 97 < b.toInt
    · rw [if_pos (show 97 < b from i_lt.mpr w2), p_in0 (x := 2) (y := 97) rfl rfl (by omega), bd2_s, bd2_s, if_pos rfl, if_pos rfl]
      exact ⟨_, μ, ν, rfl, rfl, q⟩
    rw [if_neg (c := 97 < b) (fun z => w2 (show (97 : Int32).toInt < b.toInt from i_lt.mp z)), p_in1 (x := 2) (y := 97) rfl rfl (by omega), bd2_s, bd2_s, if_neg n1_0, if_neg n1_0]
    obtain ⟨t1, t2, t3, t4, t5, t6, t7⟩ := IE_sq q2 hi h4
    have tv : tV (tgC μ i) := by rw [t1]; exact t4.1
    have g5 : gi ν 75 0 i = enc (tgC μ i) := by rw [t1]; exact t5
    have pb := tv.1
    have pb2 := tv.2.1
    rw [p_cpC, p_cpR tv (by omega) g5, bd2_s, bd2_s, nn_ab (by omega), nn_get (x := b) (by omega), p_greC hF (by omega) (by omega), p_greR hF (by omega) (by omega), bd2_s, bd2_s]
    exact ⟨_, μ, ν, rfl, rfl, q⟩
  · rw [hc, hr, bd2_s, bd2_s, oel_n, if_pos rfl]
    exact ⟨_, μ, ν, rfl, rfl, q⟩
/-! squares on their own -/
def S4 (c i j : Nat) : Prop := Sk c i j ∨ (c = 5 ∧ i = 4)
theorem S4_SC : ∀ c i j, S4 c i j → SC c i j := fun c i j h => by
  unfold S4 Sk at h
  unfold SC
  omega
theorem Tc_S4 : ∀ c i j, Tc c i → ¬ S4 c i j := fun c i j h q => by
  unfold Tc at h
  unfold S4 Sk at q
  omega
theorem p_tryL {F T N : Nat} {X : Xt} {s seed m0 : Int32} (hF : 1000 ≤ F) (hT : T < 2) (hX : Xok X) (hN : N ≤ 60) : ∀ (d n i : Nat) (μ : Mm), i + d = N → d < n → gi μ 11 0 2 = nI T → CT μ T X → qOk (sqC μ 4) → gi μ 0 0 1 = m0 → ∃ μ', fX11_tryMinutes_L11 F n s (nI N) seed (nI i) μ = some μ' ∧ ag S4 μ μ' ∧ sqC μ' 4 = dnI X seed s d (m0 + nI i) (sqC μ 4)
  | _, 0, _, _, _, h, _, _, _, _ => absurd h (Nat.not_lt_zero _)
  | 0, n + 1, i, μ, h1, h2, ht, hC, ho, hm => by
    rw [fX11_tryMinutes_L11, if_pos (by rw [nn_le (by omega) (by omega)]; omega)]
    exact ⟨μ, rfl, ag_rfl, rfl⟩
  | d + 1, n + 1, i, μ, h1, h2, ht, hC, ho, hm => by
    rw [fX11_tryMinutes_L11, if_neg (by rw [nn_le (by omega) (by omega)]; omega), ht, tx_nI hT, hm]
    obtain ⟨μ1, a1, a2⟩ := p_passC (F := F) (i := 4) (μ := μ) (s := s) (minute := m0 + nI i) (seed := seed) hF hT hX hC (by omega) ho.1
    rw [a2, bd1_s, nn_s]
    have g : ag S4 μ (pq μ1 4 (dnS X seed (m0 + nI i) s (sqC μ 4))) := ag_tr (ag_of a1 (fun _ _ _ => Or.inl)) (ag_pq (fun j => Or.inr ⟨rfl, rfl⟩))
    obtain ⟨μ', r1, r2, r3⟩ := p_tryL (F := F) (s := s) (seed := seed) hF hT hX hN d n (i + 1) _ (by omega) (by omega) ((ag_n g (by unfold S4 Sk; omega)).trans ht) (CT_ag hT hX g Tc_S4 hC) (by rw [sqC_pq]; exact dn_ok hX ho) ((ag_n g (by unfold S4 Sk; omega)).trans hm)
    refine ⟨μ', r1, ag_tr g r2, ?_⟩
    rw [r3, sqC_pq, ← nn_s, ← Int32.add_assoc]
    rfl
theorem p_try {F T N i : Nat} {X : Xt} {s seed : Int32} {μ : Mm} (hF : 1000 ≤ F) (hT : T < 2) (hX : Xok X) (hN : N ≤ 60) (hi : i < 4) (ht : gi μ 11 0 2 = nI T) (hC : CT μ T X) (ho : qOk (sqC μ i)) : ∃ μ', fX11_tryMinutes F i s (nI N) seed μ = some μ' ∧ ag S4 μ μ' ∧ sqC μ' 4 = dnI X seed s N (gi μ 0 0 1) (sqC μ i) := by
  have e : fX5_take F 4 i μ = some (pq μ 4 (sqC μ i)) := by
    unfold fX5_take
    rw [p_takeT, bd1_s]
    have h2 : gi (pt μ 4 (tgC μ i)) 5 i 2 = gi μ 5 i 2 := by
      unfold pt
      rw [gi_ne (by omega), gi_ne (by omega)]
    have h3 : ∀ v, gi (si (pt μ 4 (tgC μ i)) 5 4 2 v) 5 i 3 = gi μ 5 i 3 := fun v => by
      unfold pt
      rw [gi_ne (by omega), gi_ne (by omega), gi_ne (by omega)]
    rw [h2, h3]
    rfl
  unfold fX11_tryMinutes
  rw [e, bd1_s]
  have g : ag S4 μ (pq μ 4 (sqC μ i)) := ag_pq (fun j => Or.inr ⟨rfl, rfl⟩)
  obtain ⟨μ', r1, r2, r3⟩ := p_tryL (F := F) (s := s) (seed := seed) hF hT hX hN N F 0 _ (by omega) (by omega) ((ag_n g (by unfold S4 Sk; omega)).trans ht) (CT_ag hT hX g Tc_S4 hC) (by rw [sqC_pq]; exact ho) (ag_n g (by unfold S4 Sk; omega))
  refine ⟨μ', r1, ag_tr g r2, ?_⟩
  rw [r3, sqC_pq, show nI 0 = 0 from rfl, Int32.add_zero]
/-- the reference's row after N minutes, with a seed of its own -/
theorem p_goN {F S N : Nat} {X : Xt} {e : Es} {ν : Mm} {k : Int32} (hF : 1000 ≤ F) (hS2 : S < 2) (hX : Xok X) (hN : N ≤ 60) (hS : gi ν 12 0 18 = nI S) (hR : RT ν S X) (hw : RW (gi ν 75 0) (xn X) e) (ho : eOk e) : ∃ ν1 ν2, fX12_copies F ν = some ν1 ∧ gi ν1 12 0 47 = xs X ∧ (∀ sd, ∃ ν2, fX12_goes F (nI N) (si ν1 12 0 47 sd) = some ν2 ∧ ag SR ν ν2 ∧ RW (gi ν2 76 0) (xn X) (mnI X sd N e)) ∧ fX12_goes F (nI N) ν1 = some ν2 ∧ ag SR ν ν2 ∧ RW (gi ν2 76 0) (xn X) (mnI X (xs X) N e) := by
  obtain ⟨ν1, c1, c2, c3, c4⟩ := p_cop (F := F) hF hS2 hS hR
  have go : ∀ sd, ∃ ν2, fX12_goes F (nI N) (si ν1 12 0 47 sd) = some ν2 ∧ ag SR ν ν2 ∧ RW (gi ν2 76 0) (xn X) (mnI X sd N e) := fun sd => by
    have g : ag SR ν (si ν1 12 0 47 sd) := ag_tr c2 (ag_si (by unfold SR; omega))
    obtain ⟨ν2, d1, d2, d3⟩ := p_goes (F := F) (S := S) (X := X) (seed := sd) hF hS2 hX hN N F 0 _ e (by omega) (by omega) (live_SR g hS) (RT_SR g hR) gi_eq (RW_c hX.1 (fun z hz => by rw [gi_ne (by omega), c3 z hz]) hw) ho
    exact ⟨ν2, d1, ag_tr g (ag_of d2 Pm_SR), d3⟩
  obtain ⟨ν2, d1, d2, d3⟩ := go (xs X)
  refine ⟨ν1, ν2, c1, c4, go, ?_, d2, d3⟩
  rw [← c4, si_same] at d1
  exact d1
theorem o_then {F : Nat} (hF : 1000 ≤ F) (a b c : Int32) : st2 Inv (fX11_then F a b c) (fX12_then F a b c) := fun u s μ ν q => by
  obtain ⟨T, S, X, e, q1, q2, q3⟩ := id q
  unfold fX11_then fX12_then fX12_isLong
  have h4 := q1.2.2.1.1
  rcases p_sq (F := F) q1 a with ⟨i, hi, rfl, hc, hr⟩ | ⟨hc, hr⟩
  · rw [hc, hr, bd2_s, bd2_s, oel_s, if_neg n1_0]
    by_cases w1 : b.toInt < 0
    · rw [if_pos (i_lt0.mpr w1), p_in0 (x := 0) (y := 60) rfl rfl (by omega), bd2_s, bd2_s, if_pos rfl]
      exact ⟨_, μ, ν, rfl, rfl, q⟩
    rw [if_neg (c := b < 0) (fun z => w1 (i_lt0.mp z))]
    by_cases w2 : 60 < b.toInt
    · rw [if_pos (show 60 < b from i_lt.mpr w2), p_in0 (x := 0) (y := 60) rfl rfl (by omega), bd2_s, bd2_s, if_pos rfl]
      exact ⟨_, μ, ν, rfl, rfl, q⟩
    rw [if_neg (c := 60 < b) (fun z => w2 (show (60 : Int32).toInt < b.toInt from i_lt.mp z)), p_in1 (x := 0) (y := 60) rfl rfl (by omega), bd2_s, bd2_s, if_neg n1_0]
    by_cases w3 : c.toInt < 0
    · rw [if_pos (i_lt0.mpr w3), p_in0 (x := 0) (y := 2) rfl rfl (by omega), bd2_s, if_pos rfl]
      exact ⟨_, μ, ν, rfl, rfl, q⟩
    rw [if_neg (c := c < 0) (fun z => w3 (i_lt0.mp z))]
    by_cases w4 : c.toInt ≤ 2
    · rw [if_pos (show c ≤ 2 from i_le.mpr w4), p_in1 (x := 0) (y := 2) rfl rfl (by omega), bd2_s, if_neg n1_0]
      obtain ⟨N, hN, rfl⟩ : ∃ N, N ≤ 60 ∧ b = nI N := ⟨b.toInt.toNat, by omega, nn_get (by omega)⟩
      obtain ⟨a1, a2, a3, a4, a5, a6, a7, a8, _⟩ := id q1
      have sq := q2.1.1 i (by omega)
      have ok := q2.2.2.1 i (by omega)
      obtain ⟨μ', r1, r2, r3⟩ := p_try (F := F) (s := nI i) (seed := xs X) hF a1 a3 hN (show i < 4 by omega) a4 a7 (by rw [sq]; exact ok)
      obtain ⟨ν1, ν2, d1, d2, _, d3, d4, d5⟩ := p_goN (F := F) (k := 0) hF a2 a3 hN a6 a8 q2.2.1 q2.2.2.1
      have m1 := mnI_sq (X := X) (seed := xs X) hi N e
      rw [a4, tx_nI a1, a7.2.2.1, r1, bd1_s, d1, bd1_s, d3, bd1_s]
      rw [sq, q2.1.2.1, ← m1] at r3
      have eo := (mnI_ok (seed := xs X) a3 N e q2.2.2.1) i (by omega)
      generalize mnI X (xs X) N e = e2 at *
      have tv : tV (e2.1 i).1 := eo.1
      have i14 : inb (nI i) 14 = true := (nn_inb (by omega)).mpr (by omega)
      have i4 : inb (4 + nI i) 14 = true := by
        rw [show (4 : Int32) = nI 4 from rfl, nn_add]
        exact (nn_inb (by omega)).mpr (by omega)
      have k4 : (4 + nI i).toNatClampNeg = 4 + i := by
        rw [show (4 : Int32) = nI 4 from rfl, nn_add, nn_cl (by omega)]
      have p0 : gi μ' 5 4 0 = (e2.1 i).1.1 := congrArg (fun z => z.1.1) r3
      have p1 : gi μ' 5 4 1 = (e2.1 i).1.2 := congrArg (fun z => z.1.2) r3
      have p2 : gi μ' 5 4 2 = (e2.1 i).2.1 := congrArg (fun z => z.2.1) r3
      have iv : Inv u s μ' ν2 := Inv_scr (ag_of r2 S4_SC) d4 q
      rw [p0, p1, p2, if_pos i14, if_pos i14, if_pos i4, nn_cl (by omega), k4, d5.1 i hi, (d5.2.1 i (by omega)).1, p_over tv, p_under tv, bd2_s, bd2_s]
      by_cases b0 : c = 0
      · rw [if_pos b0, if_pos b0]
        exact ⟨_, _, _, rfl, rfl, iv⟩
      rw [if_neg b0, if_neg b0]
      by_cases b1 : c = 1
      · rw [if_pos b1, if_pos b1]
        exact ⟨_, _, _, rfl, rfl, iv⟩
      rw [if_neg b1, if_neg b1]
      exact ⟨_, _, _, rfl, rfl, iv⟩
    · rw [if_neg (c := c ≤ 2) (fun z => w4 (show c.toInt ≤ (2 : Int32).toInt from i_le.mp z)), p_in0 (x := 0) (y := 2) rfl rfl (by omega), bd2_s, if_pos rfl]
      exact ⟨_, μ, ν, rfl, rfl, q⟩
  · rw [hc, hr, bd2_s, bd2_s, oel_n, if_pos rfl]
    exact ⟨_, μ, ν, rfl, rfl, q⟩
theorem enc_300 {t : Tg} (h : tV t) : enc t = 300 ↔ t.1 = 0 := by
  rw [i_eq, enc_toInt h, show (300 : Int32).toInt = 300 from rfl, i_eq0]
  obtain ⟨h1, h2, h3, h4, h5, h6⟩ := h
  constructor
  · intro z
    omega
  · intro z
    have := tV_p0 ⟨h1, h2, h3, h4, h5, h6⟩ z
    omega
theorem p_yearL {F T S N K i : Nat} {X : Xt} {e : Es} {u s : Bool} (hF : 1000 ≤ F) (hN : N ≤ 60) (hK : K ≤ 20) (hi : i < xn X) : ∀ (d n k : Nat) (v : Int32) (μ ν : Mm), k + d = K → d < n → IB T S X u s μ ν → IE (xn X) e μ ν → ∃ r μ' ν', fX11_year_L41 F n (nI i) (nI N) (nI K) i v (nI k) μ = some (r, μ') ∧ fX12_year_L33 F n (nI i) (nI N) (nI K) v (nI k) ν = some (r, ν') ∧ ag SC μ μ' ∧ ag SR ν ν'
  | _, 0, _, _, _, _, _, h, _, _ => absurd h (Nat.not_lt_zero _)
  | 0, n + 1, k, v, μ, ν, h1, h2, q1, q2 => by
    rw [fX11_year_L41, fX12_year_L33, if_pos (by rw [nn_le (by omega) (by omega)]; omega), if_pos (by rw [nn_le (by omega) (by omega)]; omega)]
    exact ⟨v, μ, ν, rfl, rfl, ag_rfl, ag_rfl⟩
  | d + 1, n + 1, k, v, μ, ν, h1, h2, q1, q2 => by
    have h4 := q1.2.2.1.1
    have wk : ¬ nI K ≤ nI k := by
      rw [nn_le (by omega) (by omega)]
      omega
    rw [fX11_year_L41, fX12_year_L33, if_neg wk, if_neg wk]
    obtain ⟨a1, a2, a3, a4, a5, a6, a7, a8, _⟩ := id q1
    have sq := q2.1.1 i (by omega)
    have ok := q2.2.2.1 i (by omega)
    obtain ⟨μ1, r1, r2, r3⟩ := p_try (F := F) (s := nI i) (seed := xs X + nI k) hF a1 a3 hN (show i < 4 by omega) a4 a7 (by rw [sq]; exact ok)
    obtain ⟨ν1, _, d1, d2, dd, _⟩ := p_goN (F := F) (k := 0) hF a2 a3 hN a6 a8 q2.2.1 q2.2.2.1
    obtain ⟨ν2, d3, d4, d5⟩ := dd (xs X + nI k)
    have m1 := mnI_sq (X := X) (seed := xs X + nI k) hi N e
    rw [a4, tx_nI a1, a7.2.2.1, r1, bd1_s, d1, bd1_s, d2, d3, bd1_s]
    rw [sq, q2.1.2.1, ← m1] at r3
    have eo := (mnI_ok (seed := xs X + nI k) a3 N e q2.2.2.1) i (by omega)
    generalize mnI X (xs X + nI k) N e = e2 at *
    have p0 : gi μ1 5 4 0 = (e2.1 i).1.1 := congrArg (fun z => z.1.1) r3
    have gC : ag SC μ μ1 := ag_of r2 S4_SC
    have q1' : IB T S X u s μ1 ν2 := IB_ag (ν := ν) (ag_of gC (fun _ _ _ w => Or.inl w)) (ag_of d4 (fun _ _ _ w => Or.inl w)) q1
    have q2' : IE (xn X) e μ1 ν2 := IE_ag h4 r2 d4 (fun c i j w => by unfold S4 Sk at w; omega) (fun c i j w => by unfold SR at w; omega) q2
    have i14 : inb (nI i) 14 = true := (nn_inb (by omega)).mpr (by omega)
    unfold fX5_isUndone
    rw [p0, if_pos i14, nn_cl (by omega), d5.1 i hi]
    by_cases w : (e2.1 i).1.1 = 0
    · rw [if_pos w, if_pos ((enc_300 eo.1).mpr w), bd2_s, if_neg n1_0]
      unfold fX11_year_L78 fX12_year_L74
      rw [nn_s]
      obtain ⟨r, μ', ν', x1, x2, x3, x4⟩ := p_yearL (F := F) (T := T) (S := S) (K := K) hF hN hK hi d n (k + 1) (v + 1) μ1 ν2 (by omega) (by omega) q1' q2'
      exact ⟨r, μ', ν', x1, x2, ag_tr gC x3, ag_tr d4 x4⟩
    · rw [if_neg w, if_neg (fun z => w ((enc_300 eo.1).mp z)), bd2_s, if_pos rfl]
      unfold fX11_year_L78 fX12_year_L74
      rw [nn_s]
      obtain ⟨r, μ', ν', x1, x2, x3, x4⟩ := p_yearL (F := F) (T := T) (S := S) (K := K) hF hN hK hi d n (k + 1) v μ1 ν2 (by omega) (by omega) q1' q2'
      exact ⟨r, μ', ν', x1, x2, ag_tr gC x3, ag_tr d4 x4⟩
theorem o_year {F : Nat} (hF : 1000 ≤ F) (a b c : Int32) : st2 Inv (fX11_year F a b c) (fX12_year F a b c) := fun u s μ ν q => by
  obtain ⟨T, S, X, e, q1, q2, q3⟩ := id q
  unfold fX11_year fX12_year fX12_isLong
  have h4 := q1.2.2.1.1
  rcases p_sq (F := F) q1 a with ⟨i, hi, rfl, hc, hr⟩ | ⟨hc, hr⟩
  · rw [hc, hr, bd2_s, bd2_s, oel_s, if_neg n1_0]
    by_cases w1 : b.toInt < 0
    · rw [if_pos (i_lt0.mpr w1), p_in0 (x := 0) (y := 60) rfl rfl (by omega), bd2_s, bd2_s, if_pos rfl]
      exact ⟨_, μ, ν, rfl, rfl, q⟩
    rw [if_neg (c := b < 0) (fun z => w1 (i_lt0.mp z))]
    by_cases w2 : 60 < b.toInt
    · rw [if_pos (show 60 < b from i_lt.mpr w2), p_in0 (x := 0) (y := 60) rfl rfl (by omega), bd2_s, bd2_s, if_pos rfl]
      exact ⟨_, μ, ν, rfl, rfl, q⟩
    rw [if_neg (c := 60 < b) (fun z => w2 (show (60 : Int32).toInt < b.toInt from i_lt.mp z)), p_in1 (x := 0) (y := 60) rfl rfl (by omega), bd2_s, bd2_s, if_neg n1_0]
    by_cases w3 : c.toInt < 1
    · rw [if_pos (show c < 1 from i_lt.mpr w3), p_in0 (x := 1) (y := 20) rfl rfl (by omega), bd2_s, if_pos rfl]
      exact ⟨_, μ, ν, rfl, rfl, q⟩
    rw [if_neg (c := c < 1) (fun z => w3 (show c.toInt < (1 : Int32).toInt from i_lt.mp z))]
    by_cases w4 : c.toInt ≤ 20
    · rw [if_pos (show c ≤ 20 from i_le.mpr w4), p_in1 (x := 1) (y := 20) rfl rfl (by omega), bd2_s, if_neg n1_0]
      obtain ⟨N, hN, rfl⟩ : ∃ N, N ≤ 60 ∧ b = nI N := ⟨b.toInt.toNat, by omega, nn_get (by omega)⟩
      obtain ⟨K, hK, rfl⟩ : ∃ K, K ≤ 20 ∧ c = nI K := ⟨c.toInt.toNat, by omega, nn_get (by omega)⟩
      obtain ⟨r, μ', ν', x1, x2, x3, x4⟩ := p_yearL (F := F) (K := K) hF hN hK hi K F 0 0 μ ν (by omega) (by omega) q1 q2
      exact ⟨r, μ', ν', x1, x2, Inv_scr x3 x4 q⟩
    · rw [if_neg (c := c ≤ 20) (fun z => w4 (show c.toInt ≤ (20 : Int32).toInt from i_le.mp z)), p_in0 (x := 1) (y := 20) rfl rfl (by omega), bd2_s, if_pos rfl]
      exact ⟨_, μ, ν, rfl, rfl, q⟩
  · rw [hc, hr, bd2_s, bd2_s, oel_n, if_pos rfl]
    exact ⟨_, μ, ν, rfl, rfl, q⟩
