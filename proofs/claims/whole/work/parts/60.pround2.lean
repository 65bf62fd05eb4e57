theorem em2 (a b p q : Int) (m : Int) : ((a % m) * p + (b % m) * q) % m = (a * p + b * q) % m := by
  rw [Int.add_emod, Int.mul_emod (a % m), Int.emod_emod_of_dvd _ (Int.dvd_refl m), ← Int.mul_emod, Int.mul_emod (b % m), Int.emod_emod_of_dvd _ (Int.dvd_refl m), ← Int.mul_emod, ← Int.add_emod]
theorem rm_em2 {m : Nat} (a b p q : Int) : rm m ((a % m) * p + (b % m) * q) = rm m (a * p + b * q) := by
  unfold rm
  rw [em2]
def ints (t : Tb) : Int × Int × Int × Int := (t.1.toInt, t.2.1.toInt, t.2.2.1.toInt, t.2.2.2.toInt)
theorem rmT_iT {m : Nat} {T P : Tb} (h1 : 0 < m) (h2 : m < 2147483648) : rmT m (iT (rmT m (ints T)) P) = rmT m (iT T P) := by
  have k := fun z => (rm_i (m := m) h1 h2 z).1
  unfold iT rmT ints
  dsimp only
  rw [k, k, k, k, rm_em2, rm_em2, rm_em2, rm_em2]
def pNN (P : Tb) : Prop := (0 ≤ P.1.toInt ∧ P.1.toInt ≤ 97) ∧ (0 ≤ P.2.1.toInt ∧ P.2.1.toInt ≤ 97) ∧ (0 ≤ P.2.2.1.toInt ∧ P.2.2.1.toInt ≤ 97) ∧ 0 ≤ P.2.2.2.toInt ∧ P.2.2.2.toInt ≤ 97
theorem pNN_bd {P : Tb} (h : pNN P) : pBd P ∧ tBd 0 13528 P := by
  unfold pNN at h
  unfold pBd tBd gmx
  omega
theorem rmT_nn {m : Nat} {z : Int × Int × Int × Int} (h1 : 0 < m) (h2 : m ≤ 97) : pNN (rmT m z) := by
  have k := fun z => rm_i h1 (show m < 2147483648 by omega) z
  have k1 := k z.1
  have k2 := k z.2.1
  have k3 := k z.2.2.1
  have k4 := k z.2.2.2
  unfold pNN rmT
  dsimp only
  omega
theorem tb0_nn : pNN tb0 := by
  unfold pNN tb0
  decide
def tbP (ν : Mm) : Tb := (gi ν 12 0 62, gi ν 12 0 63, gi ν 12 0 64, gi ν 12 0 65)
theorem irm_rm {a b p q : Int32} {m : Nat} (h1 : 0 < m) (h2 : m ≤ 97) (ha : 0 ≤ a.toInt ∧ a.toInt ≤ 97) (hb : 0 ≤ b.toInt ∧ b.toInt ≤ 97) (hp : 0 ≤ p.toInt ∧ p.toInt ≤ 97) (hq : 0 ≤ q.toInt ∧ q.toInt ≤ 97) : irm (a * p + b * q) (nI m) = rm m (a.toInt * p.toInt + b.toInt * q.toInt) := by
  have e := sm2 (a := a) (b := b) (p := p) (q := q) (B := 97) (by omega) (by omega) (by omega) (by omega) (by omega)
  have n1 := Int.mul_nonneg ha.1 hp.1
  have n2 := Int.mul_nonneg hb.1 hq.1
  have mi : (nI m).toInt = m := nI_toInt (by omega)
  rw [irm_gen (by omega) (by omega), e, mi]
  rfl
theorem p_pt {F m : Nat} {ν : Mm} {B P : Tb} (h1 : 0 < m) (h2 : m ≤ 97) (hm : gi ν 12 0 61 = nI m) (hB : tbR ν = B) (hP : tbP ν = P) (nB : pNN B) (nP : pNN P) : ∃ ν', fX12_putsTogether F ν = some ν' ∧ ag (fun c i j => c = 12 ∧ 62 ≤ j ∧ j ≤ 65) ν ν' ∧ tbP ν' = rmT m (iT B P) := by
  have z : ¬ nI m = 0 := by
    rw [show (0 : Int32) = nI 0 from rfl, nn_inj (by omega) (by omega)]
    omega
  obtain ⟨b1, b2, b3, b4⟩ := nB
  obtain ⟨p1, p2, p3, p4⟩ := nP
  unfold fX12_putsTogether
  rw [hm, if_neg z, if_neg z, if_neg z, if_neg z]
  rw [show gi ν 12 0 57 = B.1 from congrArg (fun t => t.1) hB, show gi ν 12 0 58 = B.2.1 from congrArg (fun t => t.2.1) hB, show gi ν 12 0 59 = B.2.2.1 from congrArg (fun t => t.2.2.1) hB, show gi ν 12 0 60 = B.2.2.2 from congrArg (fun t => t.2.2.2) hB, show gi ν 12 0 62 = P.1 from congrArg (fun t => t.1) hP, show gi ν 12 0 63 = P.2.1 from congrArg (fun t => t.2.1) hP, show gi ν 12 0 64 = P.2.2.1 from congrArg (fun t => t.2.2.1) hP, show gi ν 12 0 65 = P.2.2.2 from congrArg (fun t => t.2.2.2) hP, irm_rm h1 h2 b1 b2 p1 p3, irm_rm h1 h2 b1 b2 p2 p4, irm_rm h1 h2 b3 b4 p1 p3, irm_rm h1 h2 b3 b4 p2 p4]
  refine ⟨_, rfl, ag_tr (ag_tr (ag_tr (ag_si (by omega)) (ag_si (by omega))) (ag_si (by omega))) (ag_si (by omega)), ?_⟩
  unfold tbP rmT iT
  dsimp only
  refine tb_ext ?_ ?_ ?_ ?_ <;> dsimp only
  · rw [gi_ne (by omega), gi_ne (by omega), gi_ne (by omega), gi_eq]
  · rw [gi_ne (by omega), gi_ne (by omega), gi_eq]
  · rw [gi_ne (by omega), gi_eq]
  · rw [gi_eq]
theorem p_db {F m : Nat} {ν : Mm} {B : Tb} (h1 : 0 < m) (h2 : m ≤ 97) (hm : gi ν 12 0 61 = nI m) (hB : tbR ν = B) (nB : pNN B) : ∃ ν', fX12_doubles F ν = some ν' ∧ ag (fun c i j => c = 12 ∧ 57 ≤ j ∧ j ≤ 60) ν ν' ∧ tbR ν' = rmT m (iT B B) := by
  have z : ¬ nI m = 0 := by
    rw [show (0 : Int32) = nI 0 from rfl, nn_inj (by omega) (by omega)]
    omega
  obtain ⟨b1, b2, b3, b4⟩ := nB
  unfold fX12_doubles
  rw [hm, if_neg z, if_neg z, if_neg z, if_neg z]
  rw [show gi ν 12 0 57 = B.1 from congrArg (fun t => t.1) hB, show gi ν 12 0 58 = B.2.1 from congrArg (fun t => t.2.1) hB, show gi ν 12 0 59 = B.2.2.1 from congrArg (fun t => t.2.2.1) hB, show gi ν 12 0 60 = B.2.2.2 from congrArg (fun t => t.2.2.2) hB, irm_rm h1 h2 b1 b2 b1 b3, irm_rm h1 h2 b1 b2 b2 b4, irm_rm h1 h2 b3 b4 b1 b3, irm_rm h1 h2 b3 b4 b2 b4]
  refine ⟨_, rfl, ag_tr (ag_tr (ag_tr (ag_si (by omega)) (ag_si (by omega))) (ag_si (by omega))) (ag_si (by omega)), ?_⟩
  unfold tbR rmT iT
  dsimp only
  refine tb_ext ?_ ?_ ?_ ?_ <;> dsimp only
  · rw [gi_ne (by omega), gi_ne (by omega), gi_ne (by omega), gi_eq]
  · rw [gi_ne (by omega), gi_ne (by omega), gi_eq]
  · rw [gi_ne (by omega), gi_eq]
  · rw [gi_eq]
theorem irm_1 {m : Nat} (h1 : 2 ≤ m) (h2 : m ≤ 97) : irm 1 (nI m) = 1 := by
  rw [show (1 : Int32) = nI 1 from rfl, nn_irm (by omega) (by omega), Nat.mod_eq_of_lt (by omega)]
theorem p_rb {F m : Nat} {ν : Mm} {T : Tb} (h1 : 2 ≤ m) (h2 : m ≤ 97) (hT : tbR ν = T) : ∃ ν', fX12_restsBy F (nI m) ν = some ν' ∧ ag (fun c i j => c = 12 ∧ 57 ≤ j ∧ j ≤ 65) ν ν' ∧ gi ν' 12 0 61 = nI m ∧ tbR ν' = rmT m (ints T) ∧ tbP ν' = tb0 := by
  have mi : (nI m).toInt = m := nI_toInt (by omega)
  have hm : 0 < (nI m).toInt := by omega
  have z : ¬ nI m = 0 := by
    rw [show (0 : Int32) = nI 0 from rfl, nn_inj (by omega) (by omega)]
    omega
  have k : ∀ (ν : Mm) (j j' : Nat) (v : Int32), j' ≠ j → gi (si ν 12 0 j v) 12 0 j' = gi ν 12 0 j' := fun ν j j' v w => gi_ne (by omega)
  unfold fX12_restsBy
  rw [ro_gen hm, bd2_s, ro_gen hm, bd2_s, ro_gen hm, bd2_s, ro_gen hm, bd2_s, if_neg z, if_neg z, irm_1 h1 h2, k _ 61 57 _ (by decide), k _ 57 58 _ (by decide), k _ 61 58 _ (by decide), k _ 58 59 _ (by decide), k _ 57 59 _ (by decide), k _ 61 59 _ (by decide), k _ 59 60 _ (by decide), k _ 58 60 _ (by decide), k _ 57 60 _ (by decide), k _ 61 60 _ (by decide), mi]
  rw [show gi ν 12 0 57 = T.1 from congrArg (fun t => t.1) hT, show gi ν 12 0 58 = T.2.1 from congrArg (fun t => t.2.1) hT, show gi ν 12 0 59 = T.2.2.1 from congrArg (fun t => t.2.2.1) hT, show gi ν 12 0 60 = T.2.2.2 from congrArg (fun t => t.2.2.2) hT]
  refine ⟨_, rfl, ⟨fun c i j w => ?_, fun _ _ _ => rfl⟩, ?_, ?_, ?_⟩
  · rw [gi_ne (by omega), gi_ne (by omega), gi_ne (by omega), gi_ne (by omega), gi_ne (by omega), gi_ne (by omega), gi_ne (by omega), gi_ne (by omega), gi_ne (by omega)]
  · rw [k _ _ _ _ (by decide), k _ _ _ _ (by decide), k _ _ _ _ (by decide), k _ _ _ _ (by decide), k _ _ _ _ (by decide), k _ _ _ _ (by decide), k _ _ _ _ (by decide), k _ _ _ _ (by decide), gi_eq]
  · unfold tbR rmT ints rm
    dsimp only
    refine tb_ext ?_ ?_ ?_ ?_ <;> dsimp only
    · rw [k _ _ _ _ (by decide), k _ _ _ _ (by decide), k _ _ _ _ (by decide), k _ _ _ _ (by decide), k _ _ _ _ (by decide), k _ _ _ _ (by decide), k _ _ _ _ (by decide), gi_eq]
    · rw [k _ _ _ _ (by decide), k _ _ _ _ (by decide), k _ _ _ _ (by decide), k _ _ _ _ (by decide), k _ _ _ _ (by decide), k _ _ _ _ (by decide), gi_eq]
    · rw [k _ _ _ _ (by decide), k _ _ _ _ (by decide), k _ _ _ _ (by decide), k _ _ _ _ (by decide), k _ _ _ _ (by decide), gi_eq]
    · rw [k _ _ _ _ (by decide), k _ _ _ _ (by decide), k _ _ _ _ (by decide), k _ _ _ _ (by decide), gi_eq]
  · unfold tbP tb0
    refine tb_ext ?_ ?_ ?_ ?_ <;> dsimp only
    · rw [k _ _ _ _ (by decide), k _ _ _ _ (by decide), k _ _ _ _ (by decide), gi_eq]
    · rw [k _ _ _ _ (by decide), k _ _ _ _ (by decide), gi_eq]
    · rw [k _ _ _ _ (by decide), gi_eq]
    · rw [gi_eq]
theorem p_rnd {F m r N : Nat} {T : Tb} (h1 : 2 ≤ m) (h2 : m ≤ 97) (hr : r < 18) (hT : tOk T) (hb : tBd 0 13528 T) (hN : N ≤ 10000) (hper : xyI m (T.1.toInt + T.2.2.2.toInt) N = (0, 1)) : ∀ (d n n' k : Nat) (μ ν : Mm) (P : Tb), k + (d + 1) = N → d < n → d + 1 < n' → tbC μ r = T → tbC μ 18 = P → gi ν 12 0 61 = nI m → tbR ν = rmT m (ints T) → tbP ν = P → pNN P → rel m T P (xyI m (T.1.toInt + T.2.2.2.toInt) k) → ∃ x μ' ν', fX11_roundOf_L9 F n r (nI m) (nI (k + 1)) μ = some (x, μ') ∧ fX12_round_L32 F n' (nI m) (nI k) 0 ν = some (x, ν') ∧ ag (fun c i _ => c = 6 ∧ i = 18) μ μ' ∧ ag (fun c i j => c = 12 ∧ 57 ≤ j ∧ j ≤ 65) ν ν'
  | _, 0, _, _, _, _, _, _, h, _, _, _, _, _, _, _, _ => absurd h (Nat.not_lt_zero _)
  | _, _, 0, _, _, _, _, _, _, h, _, _, _, _, _, _, _ => absurd h (Nat.not_lt_zero _)
  | d, n + 1, n' + 1, k, μ, ν, P, hk, hn, hn', ht, hp, hm, hB, hP, nP, hrel => by
    have nB := rmT_nn (m := m) (z := ints T) (by omega) h2
    obtain ⟨μ1, a1, a2, a3⟩ := p_bm (F := F) (k := 18) (x := 18) (y := r) (μ := μ) (m := m) (by omega) h2 (by rw [ht]; exact hb) (by rw [hp]; exact (pNN_bd nP).1)
    obtain ⟨ν1, b1, b2, b3⟩ := p_pt (F := F) (by omega) h2 hm hB hP nB nP
    rw [ht, hp] at a3
    rw [rmT_iT (by omega) (by omega)] at b3
    have hrel' := rel_s (m := m) (T := T) (P := P) (by omega) (by omega) hT hrel
    have nP' := rmT_nn (m := m) (z := iT T P) (by omega) h2
    have gA : ag (fun c i j => c = 12 ∧ 57 ≤ j ∧ j ≤ 65) ν ν1 := ag_of b2 (fun c i j w => by omega)
    rw [fX11_roundOf_L9, fX12_round_L32, if_neg (show ¬ (1000000 : Int32) < nI (k + 1) by rw [show (1000000 : Int32) = nI 1000000 from rfl, nn_lt (by omega) (by omega)]; omega), a1, if_pos rfl, b1, bd1_s]
    unfold fX6_isNothingBy fX6_isNothingBy_L43 fX12_round_L87 fX12_round_L91 fX12_round_L92
    have last : d = 0 → rmT m (iT T P) = (1, 0, 0, 1) := fun z => by
      have e : xyS m (T.1.toInt + T.2.2.2.toInt) (xyI m (T.1.toInt + T.2.2.2.toInt) k) = (0, 1) := by
        rw [← hper, show N = k + 1 by omega]
        rfl
      rw [e] at hrel'
      exact rel_1 h1 (by omega) hrel'
    rw [show gi μ1 6 18 0 = (rmT m (iT T P)).1 from congrArg (fun t => t.1) a3, show gi μ1 6 18 1 = (rmT m (iT T P)).2.1 from congrArg (fun t => t.2.1) a3, show gi μ1 6 18 2 = (rmT m (iT T P)).2.2.1 from congrArg (fun t => t.2.2.1) a3, show gi μ1 6 18 3 = (rmT m (iT T P)).2.2.2 from congrArg (fun t => t.2.2.2) a3, show gi ν1 12 0 62 = (rmT m (iT T P)).1 from congrArg (fun t => t.1) b3, show gi ν1 12 0 63 = (rmT m (iT T P)).2.1 from congrArg (fun t => t.2.1) b3, show gi ν1 12 0 64 = (rmT m (iT T P)).2.2.1 from congrArg (fun t => t.2.2.1) b3, show gi ν1 12 0 65 = (rmT m (iT T P)).2.2.2 from congrArg (fun t => t.2.2.2) b3]
    obtain ⟨n'', rfl⟩ : ∃ x, n' = x + 1 := ⟨n' - 1, by omega⟩
    have fin : fX12_round_L32 F (n'' + 1) (nI m) (nI k + 1) 1 ν1 = some (nI (k + 1), ν1) := by
      rw [fX12_round_L32, if_neg n1_0, nn_s]
    have goOn : rmT m (iT T P) ≠ (1, 0, 0, 1) → ∃ x μ' ν', fX11_roundOf_L9 F n r (nI m) (nI (k + 1) + 1) μ1 = some (x, μ') ∧ fX12_round_L32 F (n'' + 1) (nI m) (nI k + 1) 0 ν1 = some (x, ν') ∧ ag (fun c i _ => c = 6 ∧ i = 18) μ μ' ∧ ag (fun c i j => c = 12 ∧ 57 ≤ j ∧ j ≤ 65) ν ν' := fun hne => by
      obtain ⟨d', rfl⟩ : ∃ x, d = x + 1 := ⟨d - 1, by have : d ≠ 0 := fun z => hne (last z); omega⟩
      have tr : tbR ν1 = tbR ν := by
        unfold tbR
        rw [ag_n b2 (by omega), ag_n b2 (by omega), ag_n b2 (by omega), ag_n b2 (by omega)]
      obtain ⟨x, μ', ν', x1, x2, x3, x4⟩ := p_rnd h1 h2 hr hT hb hN hper d' n (n'' + 1) (k + 1) μ1 ν1 _ (by omega) (by omega) (by omega) ((tbC_ag a2 (by omega)).trans ht) a3 ((ag_n b2 (by omega)).trans hm) (tr.trans hB) b3 nP' hrel'
      rw [nn_s, nn_s]
      exact ⟨x, μ', ν', x1, x2, ag_tr a2 x3, ag_tr gA x4⟩
    generalize rmT m (iT T P) = Q at *
    by_cases q1 : Q.2.1 = 0
    · rw [if_pos q1, if_pos q1]
      by_cases q2 : Q.2.2.1 = 0
      · rw [if_pos q2, if_pos q2]
        by_cases q3 : Q.1 = Q.2.2.2
        · rw [if_pos q3, if_pos q3]
          by_cases q4 : Q.1 = 1
          · rw [if_pos q4, if_pos q4, bd2_s, if_neg n1_0]
            exact ⟨_, μ1, ν1, rfl, fin, a2, gA⟩
          · rw [if_neg q4, if_neg q4]
            by_cases q5 : Q.1 = nI m - 1
            · rw [if_pos q5, if_pos q5, bd2_s, if_neg n1_0]
              exact ⟨_, μ1, ν1, rfl, fin, a2, gA⟩
            · rw [if_neg q5, if_neg q5, bd2_s, if_pos rfl]
              exact goOn (fun z => q4 (by rw [z]))
        · rw [if_neg q3, if_neg q3, bd2_s, if_pos rfl]
          exact goOn (fun z => q3 (by rw [z]))
      · rw [if_neg q2, if_neg q2, bd2_s, if_pos rfl]
        exact goOn (fun z => q2 (by rw [z]))
    · rw [if_neg q1, if_neg q1, bd2_s, if_pos rfl]
      exact goOn (fun z => q1 (by rw [z]))
theorem o_round {F : Nat} (hF : 100000 ≤ F) (a b : Int32) : st2 Inv (fX11_round F a b) (fX12_round F a b) := fun u s μ ν q => by
  obtain ⟨T, S, X, e, q1, q2, q3⟩ := id q
  obtain ⟨a1, a2, a3, a4, a5, a6, a7, a8, _⟩ := id q1
  have hm5 := a3.2.1
  unfold fX11_round fX12_round fX11_round_L17 fX11_isDivisor fX12_isBase
  rcases p_fig (F := F) q1 a with ⟨f, hf, rfl, hc, hr⟩ | ⟨hc, hr⟩
  · rw [hc, hr, bd2_s, bd2_s, oel_s, if_neg n1_0]
    by_cases w1 : b.toInt < 2
    · rw [if_pos (show b < 2 from i_lt.mpr w1), p_in0 (x := 2) (y := 97) rfl rfl (by omega), bd2_s, bd2_s, bd2_s, if_pos rfl, if_pos rfl]
      exact ⟨_, μ, ν, rfl, rfl, q⟩
    rw [if_neg (c := b < 2) (fun z => w1 (show b.toInt < (2 : Int32).toInt from i_lt.mp z))]
    by_cases w2 : 97 < b.toInt
    · rw [if_pos (show 97 < b from i_lt.mpr w2), p_in0 (x := 2) (y := 97) rfl rfl (by omega), bd2_s, bd2_s, bd2_s, if_pos rfl, if_pos rfl]
      exact ⟨_, μ, ν, rfl, rfl, q⟩
    rw [if_neg (c := 97 < b) (fun z => w2 (show (97 : Int32).toInt < b.toInt from i_lt.mp z)), p_in1 (x := 2) (y := 97) rfl rfl (by omega), bd2_s, bd2_s, bd2_s, if_neg n1_0, if_neg n1_0]
    obtain ⟨m, hm1, hm2, rfl⟩ : ∃ m, 2 ≤ m ∧ m ≤ 97 ∧ b = nI m := ⟨b.toInt.toNat, by omega, by omega, nn_get (by omega)⟩
    obtain ⟨ok, bd⟩ := tF_b a3 hf
    rw [p_tof (by omega) a2 a3 hf a6 a8, bd1_s]
    obtain ⟨ν1, r1, r2, r3, r4, r5⟩ := p_rb (F := F) (ν := ptb ν (tF X f)) hm1 hm2 tbR_ptb
    obtain ⟨N, N1, N2, N3⟩ := xy_per (m := m) (t := (tF X f).1.toInt + (tF X f).2.2.2.toInt) hm1
    have mm : m * m ≤ 97 * 97 := Nat.mul_le_mul hm2 hm2
    have cl : fX6_clear F 18 μ = some (si (si (si (si μ 6 18 0 1) 6 18 1 0) 6 18 2 0) 6 18 3 1) := rfl
    have gc : ag (fun c i _ => c = 6 ∧ i = 18) μ (si (si (si (si μ 6 18 0 1) 6 18 1 0) 6 18 2 0) 6 18 3 1) := ag_tr (ag_tr (ag_tr (ag_si ⟨rfl, rfl⟩) (ag_si ⟨rfl, rfl⟩)) (ag_si ⟨rfl, rfl⟩)) (ag_si ⟨rfl, rfl⟩)
    have t18 : tbC (si (si (si (si μ 6 18 0 1) 6 18 1 0) 6 18 2 0) 6 18 3 1) 18 = tb0 := by
      unfold tbC tb0
      refine tb_ext ?_ ?_ ?_ ?_ <;> dsimp only
      · rw [gi_ne (by omega), gi_ne (by omega), gi_ne (by omega), gi_eq]
      · rw [gi_ne (by omega), gi_ne (by omega), gi_eq]
      · rw [gi_ne (by omega), gi_eq]
      · rw [gi_eq]
    obtain ⟨x, μ', ν', x1, x2, x3, x4⟩ := p_rnd (F := F) (r := 9 * T + 4 + f) hm1 hm2 (by omega) ok bd (show N ≤ 10000 by omega) N3 (N - 1) F F 0 _ ν1 tb0 (by omega) (by omega) (by omega) ((tbC_ag gc (by omega)).trans (tbC_f a7 hf)) t18 r3 r4 r5 tb0_nn ⟨0, 0, 0, 0, by show (1 : Int) = 0 * _ + 1 + m * 0; omega, by show (0 : Int) = 0 * _ + m * 0; omega, by show (0 : Int) = 0 * _ + m * 0; omega, by show (1 : Int) = 0 * _ + 1 + m * 0; omega⟩
    unfold fX11_roundOf
    rw [cl, bd1_s, r1, bd1_s]
    rw [show (nI (0 + 1) : Int32) = 1 from rfl] at x1
    rw [show (nI 0 : Int32) = 0 from rfl] at x2
    rw [x1, x2, bd2_s]
    exact ⟨x, μ', ν', rfl, rfl, Inv_scr (ag_of (ag_tr gc x3) (fun c i j w => by unfold SC; omega)) (ag_tr ag_ptb (ag_of (ag_tr r2 x4) (fun c i j w => by unfold SR; omega))) q⟩
  · rw [hc, hr, bd2_s, bd2_s, oel_n, if_pos rfl]
    exact ⟨_, μ, ν, rfl, rfl, q⟩
