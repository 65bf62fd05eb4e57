theorem hnd {a b v s : Int32} (ha : a.toInt.natAbs ≤ 13528) (hb : b.toInt.natAbs ≤ 13528) (hv : v = 0 ∨ v = 1) (hs : s = 0 ∨ s = 1) : -2147483648 < (a * v + b * s).toInt := by
  rcases hv with rfl | rfl <;> rcases hs with rfl | rfl
  · rw [show a * 0 + b * 0 = 0 by grind]
    decide
  · rw [show a * 0 + b * 1 = b by grind]
    omega
  · rw [show a * 1 + b * 0 = a by grind]
    omega
  · rw [show a * 1 + b * 1 = a + b by grind, tz_add (by omega)]
    omega
theorem ab_par {x : Int32} (h : -2147483648 < x.toInt) : (irm (ab x) 2 = 0) ↔ x.toInt % 2 = 0 := by
  have := Int32.toInt_lt x
  rw [irm2, nn_ab h, nI_toInt (by omega)]
  omega
theorem p_hnd {F i : Nat} {μ ν : Mm} {t : Tb} {v s : Int32} (ht : tbC μ i = t) (hr : tbR ν = t) (hb : tBd 0 13528 t) (hv : v = 0 ∨ v = 1) (hs : s = 0 ∨ s = 1) : fX6_endsOf_L20 F i v s μ = some (enS (t.1 * v + t.2.1 * s, t.2.2.1 * v + t.2.2.2 * s), μ) ∧ fX12_hands_L44 F v s ν = some (enS (t.1 * v + t.2.1 * s, t.2.2.1 * v + t.2.2.2 * s), ν) := by
  obtain ⟨b1, b2, b3, b4⟩ := tBd_0 hb
  have x1 := hnd b1 b2 hv hs
  have x2 := hnd b3 b4 hv hs
  unfold fX6_endsOf_L20 fX12_hands_L44
  rw [show gi μ 6 i 0 = t.1 from congrArg (fun t => t.1) ht, show gi μ 6 i 1 = t.2.1 from congrArg (fun t => t.2.1) ht, show gi μ 6 i 2 = t.2.2.1 from congrArg (fun t => t.2.2.1) ht, show gi μ 6 i 3 = t.2.2.2 from congrArg (fun t => t.2.2.2) ht, p_endsOf, bd2_s]
  rw [show gi ν 12 0 57 = t.1 from congrArg (fun t => t.1) hr, show gi ν 12 0 58 = t.2.1 from congrArg (fun t => t.2.1) hr, p_off x1, bd2_s, show gi ν 12 0 59 = t.2.2.1 from congrArg (fun t => t.2.2.1) hr, show gi ν 12 0 60 = t.2.2.2 from congrArg (fun t => t.2.2.2) hr, p_off x2, bd2_s]
  generalize t.1 * v + t.2.1 * s = x at *
  generalize t.2.2.1 * v + t.2.2.2 * s = y at *
  refine ⟨rfl, ?_⟩
  unfold enS
  by_cases w1 : x.toInt % 2 = 0
  · rw [if_pos ((ab_par x1).mpr w1), if_pos w1]
  · rw [if_neg (fun z => w1 ((ab_par x1).mp z)), if_neg w1]
    by_cases w2 : y.toInt % 2 = 0
    · rw [if_pos ((ab_par x2).mpr w2), if_pos w2]
    · rw [if_neg (fun z => w2 ((ab_par x2).mp z)), if_neg w2]
theorem o_hands {F : Nat} (hF : 1000 ≤ F) (a b : Int32) : st2 Inv (fX11_hands F a b) (fX12_hands F a b) := fun u s μ ν q => by
  obtain ⟨T, S, X, e, q1, q2, q3⟩ := id q
  obtain ⟨a1, a2, a3, a4, a5, a6, a7, a8, _⟩ := id q1
  unfold fX11_hands fX12_hands fX11_hands_L19
  rcases p_fig (F := F) q1 a with ⟨f, hf, rfl, hc, hr⟩ | ⟨hc, hr⟩
  · rw [hc, hr, bd2_s, bd2_s, oel_s, if_neg n1_0]
    by_cases w0 : b.toInt < 0
    · rw [if_pos (i_lt0.mpr w0), p_in0 (x := 0) (y := 2) rfl rfl (by omega), bd2_s, if_pos rfl]
      exact ⟨_, μ, ν, rfl, rfl, q⟩
    rw [if_neg (c := b < 0) (fun z => w0 (i_lt0.mp z))]
    by_cases w1 : b.toInt ≤ 2
    · rw [if_pos (show b ≤ 2 from i_le.mpr w1), p_in1 (x := 0) (y := 2) rfl rfl (by omega), bd2_s, if_neg n1_0, p_tof hF a2 a3 hf a6 a8, bd1_s]
      have tb := tbC_f a7 hf
      have hb := (tF_b a3 hf).2
      have iv : ∀ r : Int32, ∃ r' μ' ν', some (r, μ) = some (r', μ') ∧ some (r, ptb ν (tF X f)) = some (r', ν') ∧ Inv u s μ' ν' := fun r => ⟨r, μ, _, rfl, rfl, Inv_scr ag_rfl ag_ptb q⟩
      have go : ∀ v s', (v = 0 ∨ v = 1) → (s' = 0 ∨ s' = 1) → ∃ r' μ' ν', (bd2 (fX6_endsOf_L20 F (9 * T + 4 + f) v s' μ) fun r12 μ11 => some (r12, μ11)) = some (r', μ') ∧ fX12_hands_L44 F v s' (ptb ν (tF X f)) = some (r', ν') ∧ Inv u s μ' ν' := fun v s' hv hs => by
        obtain ⟨g1, g2⟩ := p_hnd (F := F) (ν := ptb ν (tF X f)) tb tbR_ptb hb hv hs
        rw [g1, g2, bd2_s]
        exact iv _
      unfold fX6_endsOf fX6_endsOf_L9 fX12_hands_L33
      by_cases b0 : b = 0
      · rw [if_pos b0, if_pos b0, if_neg (show ¬ b = 2 by rw [b0]; decide), if_neg (show ¬ b = 2 by rw [b0]; decide)]
        exact go 0 1 (Or.inl rfl) (Or.inr rfl)
      rw [if_neg b0, if_neg b0]
      by_cases b2 : b = 2
      · rw [if_pos b2, if_pos b2]
        exact go 1 0 (Or.inr rfl) (Or.inl rfl)
      · rw [if_neg b2, if_neg b2]
        exact go 1 1 (Or.inr rfl) (Or.inr rfl)
    · rw [if_neg (show ¬ b ≤ 2 from fun z => w1 (i_le.mp z)), p_in0 (x := 0) (y := 2) rfl rfl (by omega), bd2_s, if_pos rfl]
      exact ⟨_, μ, ν, rfl, rfl, q⟩
  · rw [hc, hr, bd2_s, bd2_s, oel_n, if_pos rfl]
    exact ⟨_, μ, ν, rfl, rfl, q⟩
/-! PURE: powers by a modulus -/
theorem fm_gen {F : Nat} {z m : Int32} {μ : Mm} (hm : 0 < m.toInt) : fJ9_floorMod_7cf53 F z m μ = some (nI (z.toInt % m.toInt).toNat, μ) := by
  have ti := tz_irm z m
  have fm := fm_i (p := z.toInt) hm
  have h1 := Int.emod_nonneg z.toInt (show m.toInt ≠ 0 by omega)
  have h2 := Int.emod_lt_of_pos z.toInt hm
  have ml := Int32.toInt_lt m
  have en : (nI (z.toInt % m.toInt).toNat).toInt = z.toInt % m.toInt := by
    rw [nI_toInt (by omega)]
    omega
  have b1 : z.toInt.tmod m.toInt < m.toInt := Int.tmod_lt_of_pos _ hm
  have b2 : -m.toInt < z.toInt.tmod m.toInt := by
    have := Int.lt_tmod_of_pos z.toInt hm
    omega
  unfold fJ9_floorMod_7cf53
  rw [if_neg (by rw [i_eq0]; omega)]
  by_cases w : 0 ≤ (z ^^^ m)
  · have p0 : 0 ≤ z.toInt := by
      rw [xor_nn] at w
      simp at w
      omega
    have := Int.tmod_nonneg m.toInt p0
    rw [if_pos w, show irm z m = nI (z.toInt % m.toInt).toNat by rw [i_eq, ti, en, fm, if_neg (by omega)]]
  · have p0 : z.toInt < 0 := by
      rw [xor_nn] at w
      simp at w
      omega
    have np : z.toInt.tmod m.toInt ≤ 0 := by
      have := Int.tmod_nonneg m.toInt (show 0 ≤ -z.toInt by omega)
      rw [Int.neg_tmod] at this
      omega
    rw [if_neg w]
    by_cases y : irm z m = 0
    · have z1 := i_eq0.mp y
      rw [if_pos y, show irm z m = nI (z.toInt % m.toInt).toNat by rw [i_eq, ti, en, fm, if_neg (by omega)]]
    · have z1 : (irm z m).toInt ≠ 0 := fun x => y (i_eq0.mpr x)
      rw [if_neg y, show irm z m + m = nI (z.toInt % m.toInt).toNat by rw [i_eq, tz_add (by omega), ti, en, fm, if_pos (by omega)]]
theorem ro_gen {F : Nat} {z m : Int32} {μ : Mm} (hm : 0 < m.toInt) : fX12_restOf F z m μ = some (nI (z.toInt % m.toInt).toNat, μ) := by
  have ti := tz_irm z m
  have fm := fm_i (p := z.toInt) hm
  have h1 := Int.emod_nonneg z.toInt (show m.toInt ≠ 0 by omega)
  have h2 := Int.emod_lt_of_pos z.toInt hm
  have ml := Int32.toInt_lt m
  have en : (nI (z.toInt % m.toInt).toNat).toInt = z.toInt % m.toInt := by
    rw [nI_toInt (by omega)]
    omega
  have b1 : z.toInt.tmod m.toInt < m.toInt := Int.tmod_lt_of_pos _ hm
  have b2 : -m.toInt < z.toInt.tmod m.toInt := by
    have := Int.lt_tmod_of_pos z.toInt hm
    omega
  unfold fX12_restOf
  rw [if_neg (by rw [i_eq0]; omega)]
  by_cases w : 0 ≤ irm z m
  · have w1 := i_0le.mp w
    rw [if_pos w, show irm z m = nI (z.toInt % m.toInt).toNat by rw [i_eq, ti, en, fm, if_neg (by omega)]]
  · have w1 : (irm z m).toInt < 0 := by
      rw [i_0le] at w
      omega
    rw [if_neg w, show irm z m + m = nI (z.toInt % m.toInt).toNat by rw [i_eq, tz_add (by omega), ti, en, fm, if_pos (by omega)]]
theorem irm_gen {z m : Int32} (hm : 0 < m.toInt) (hz : 0 ≤ z.toInt) : irm z m = nI (z.toInt % m.toInt).toNat := by
  have h1 := Int.emod_nonneg z.toInt (show m.toInt ≠ 0 by omega)
  have h2 := Int.emod_lt_of_pos z.toInt hm
  have ml := Int32.toInt_lt m
  have h3 := Int.tmod_nonneg m.toInt hz
  rw [i_eq, tz_irm, nI_toInt (by omega), fm_i hm, if_neg (by omega)]
  omega
/-- the rest of a whole number -/
def rm (m : Nat) (z : Int) : Int32 := nI (z % m).toNat
theorem rm_i {m : Nat} (hm : 0 < m) (h : m < 2147483648) (z : Int) : (rm m z).toInt = z % m ∧ 0 ≤ z % m ∧ z % m < m := by
  have h1 := Int.emod_nonneg z (show (m : Int) ≠ 0 by omega)
  have h2 := Int.emod_lt_of_pos z (show (0 : Int) < m by omega)
  refine ⟨?_, h1, h2⟩
  unfold rm
  rw [nI_toInt (by omega)]
  omega
def rmT (m : Nat) (t : Int × Int × Int × Int) : Tb := (rm m t.1, rm m t.2.1, rm m t.2.2.1, rm m t.2.2.2)
/-- a product over the whole numbers -/
def iT (B A : Tb) : Int × Int × Int × Int := (B.1.toInt * A.1.toInt + B.2.1.toInt * A.2.2.1.toInt, B.1.toInt * A.2.1.toInt + B.2.1.toInt * A.2.2.2.toInt, B.2.2.1.toInt * A.1.toInt + B.2.2.2.toInt * A.2.2.1.toInt, B.2.2.1.toInt * A.2.1.toInt + B.2.2.2.toInt * A.2.2.2.toInt)
theorem sm2 {a b p q : Int32} {B : Nat} (ha : a.toInt.natAbs ≤ B) (hb : b.toInt.natAbs ≤ B) (hp : p.toInt.natAbs ≤ 97) (hq : q.toInt.natAbs ≤ 97) (hB : B ≤ 13528) : (a * p + b * q).toInt = a.toInt * p.toInt + b.toInt * q.toInt := by
  have m1 : (a.toInt * p.toInt).natAbs ≤ 13528 * 97 := by
    rw [Int.natAbs_mul]
    exact Nat.mul_le_mul (by omega) hp
  have m2 : (b.toInt * q.toInt).natAbs ≤ 13528 * 97 := by
    rw [Int.natAbs_mul]
    exact Nat.mul_le_mul (by omega) hq
  have e1 : (a * p).toInt = a.toInt * p.toInt := tz_mul (by omega)
  have e2 : (b * q).toInt = b.toInt * q.toInt := tz_mul (by omega)
  rw [tz_add (by omega), e1, e2]
def pBd (P : Tb) : Prop := P.1.toInt.natAbs ≤ 97 ∧ P.2.1.toInt.natAbs ≤ 97 ∧ P.2.2.1.toInt.natAbs ≤ 97 ∧ P.2.2.2.toInt.natAbs ≤ 97
theorem rmT_bd {m : Nat} {z : Int × Int × Int × Int} (h1 : 0 < m) (h2 : m ≤ 97) : pBd (rmT m z) := by
  have k := fun z => rm_i h1 (by omega) z
  have k1 := k z.1
  have k2 := k z.2.1
  have k3 := k z.2.2.1
  have k4 := k z.2.2.2
  unfold pBd rmT
  dsimp only
  omega
theorem p_rests {F k x : Nat} {μ : Mm} {m : Nat} (h1 : 0 < m) (h2 : m ≤ 97) : ∃ μ', fX6_restsOf F k x (nI m) μ = some μ' ∧ ag (fun c i _ => c = 6 ∧ i = k) μ μ' ∧ tbC μ' k = rmT m ((tbC μ x).1.toInt, (tbC μ x).2.1.toInt, (tbC μ x).2.2.1.toInt, (tbC μ x).2.2.2.toInt) := by
  have mi : (nI m).toInt = m := nI_toInt (by omega)
  have hm : 0 < (nI m).toInt := by omega
  have g1 : ∀ (μ : Mm) (j j' : Nat) (v : Int32), j' ≠ j → gi (si μ 6 k j v) 6 x j' = gi μ 6 x j' := fun μ j j' v w => gi_ne (by omega)
  unfold fX6_restsOf
  rw [if_neg (nn_le0 h1 (by omega)), fm_gen hm, bd2_s, fm_gen hm, bd2_s, fm_gen hm, bd2_s, fm_gen hm, bd2_s, g1 _ 0 1 _ (by decide), g1 _ 1 2 _ (by decide), g1 _ 0 2 _ (by decide), g1 _ 2 3 _ (by decide), g1 _ 1 3 _ (by decide), g1 _ 0 3 _ (by decide), mi]
  refine ⟨_, rfl, ag_tr (ag_tr (ag_tr (ag_si ⟨rfl, rfl⟩) (ag_si ⟨rfl, rfl⟩)) (ag_si ⟨rfl, rfl⟩)) (ag_si ⟨rfl, rfl⟩), ?_⟩
  unfold tbC rmT rm
  dsimp only
  refine tb_ext ?_ ?_ ?_ ?_ <;> dsimp only
  · rw [gi_ne (by omega), gi_ne (by omega), gi_ne (by omega), gi_eq]
  · rw [gi_ne (by omega), gi_ne (by omega), gi_eq]
  · rw [gi_ne (by omega), gi_eq]
  · rw [gi_eq]
theorem p_bec {F k x y : Nat} {μ : Mm} : ∃ μ', fX6_become F k x y μ = some μ' ∧ ag (fun c i _ => c = 6 ∧ i = k) μ μ' ∧ tbC μ' k = mT (tbC μ y) (tbC μ x) := by
  refine ⟨_, rfl, ag_tr (ag_tr (ag_tr (ag_si ⟨rfl, rfl⟩) (ag_si ⟨rfl, rfl⟩)) (ag_si ⟨rfl, rfl⟩)) (ag_si ⟨rfl, rfl⟩), ?_⟩
  unfold tbC mT
  dsimp only
  refine tb_ext ?_ ?_ ?_ ?_ <;> dsimp only
  · rw [gi_ne (by omega), gi_ne (by omega), gi_ne (by omega), gi_eq]
  · rw [gi_ne (by omega), gi_ne (by omega), gi_eq]
  · rw [gi_ne (by omega), gi_eq]
  · rw [gi_eq]
/-- a product by a modulus, of the class -/
theorem p_bm {F k x y m : Nat} {μ : Mm} (h1 : 0 < m) (h2 : m ≤ 97) (hT : tBd 0 13528 (tbC μ y)) (hP : pBd (tbC μ x)) : ∃ μ', (∀ g : Mm → Option (Int32 × Mm), (bd1 (fX6_become F k x y μ) fun μ9 => bd1 (fX6_restsOf F k k (nI m) μ9) g) = g μ') ∧ ag (fun c i _ => c = 6 ∧ i = k) μ μ' ∧ tbC μ' k = rmT m (iT (tbC μ y) (tbC μ x)) := by
  obtain ⟨μ1, a1, a2, a3⟩ := p_bec (F := F) (k := k) (x := x) (y := y) (μ := μ)
  obtain ⟨μ2, b1, b2, b3⟩ := p_rests (F := F) (k := k) (x := k) (μ := μ1) h1 h2
  refine ⟨μ2, fun g => by rw [a1, bd1_s, b1, bd1_s], ag_tr a2 b2, ?_⟩
  rw [b3, a3]
  obtain ⟨t1, t2, t3, t4⟩ := tBd_0 hT
  obtain ⟨p1, p2, p3, p4⟩ := hP
  unfold mT iT
  dsimp only
  rw [sm2 t1 t2 p1 p3 (Nat.le_refl _), sm2 t1 t2 p2 p4 (Nat.le_refl _), sm2 t3 t4 p1 p3 (Nat.le_refl _), sm2 t3 t4 p2 p4 (Nat.le_refl _)]
