/-! PURE: tangles. CROSSINGS, ENDS, MOVES, both sides -/
def crF : Nat → Nat → Nat → Nat
  | 0, _, _ => 0
  | f + 1, a, b => if b = 0 then 0 else a / b + crF f b (a % b)
theorem crF_fuel : ∀ (f g a b : Nat), b < f → b < g → crF f a b = crF g a b
  | 0, _, _, _, h, _ => absurd h (Nat.not_lt_zero _)
  | _ + 1, 0, _, _, _, h => absurd h (Nat.not_lt_zero _)
  | f + 1, g + 1, a, b, h1, h2 => by
    unfold crF
    by_cases hb : b = 0
    · rw [if_pos hb, if_pos hb]
    · rw [if_neg hb, if_neg hb]
      have h3 := Nat.mod_lt a (Nat.pos_of_ne_zero hb)
      rw [crF_fuel f g b (a % b) (by omega) (by omega)]
/-- CROSSINGS of a / b -/
def cr (a b : Nat) : Nat := crF (b + 1) a b
theorem cr_0 {a : Nat} : cr a 0 = 0 := by simp [cr, crF]
theorem cr_s {a b : Nat} (h : b ≠ 0) : cr a b = a / b + cr b (a % b) := by
  show crF (b + 1) a b = a / b + crF (a % b + 1) b (a % b)
  have h3 := Nat.mod_lt a (Nat.pos_of_ne_zero h)
  rw [show crF (b + 1) a b = if b = 0 then 0 else a / b + crF b b (a % b) from rfl, if_neg h, crF_fuel b (a % b + 1) b (a % b) h3 (Nat.lt_succ_self _)]
theorem cX5_cr (F : Nat) (μ : Mm) : ∀ (n b a s i : Nat), b + i ≤ 99 → b < n → a < 2147483648 → fX5_crossings_L18 F n (nI s) (nI a) (nI b) (nI i) μ = some (nI (s + cr a b), μ)
  | 0, _, _, _, _, _, h, _ => absurd h (Nat.not_lt_zero _)
  | n + 1, b, a, s, i, h1, h2, h3 => by
    rw [fX5_crossings_L18, if_neg (by rw [show (100 : Int32) = nI 100 from rfl, nn_le (by decide) (by omega)]; omega)]
    by_cases hb : b = 0
    · rw [if_pos (by rw [hb]; rfl), hb, cr_0]
      rfl
    · have hn : ¬ nI b = 0 := by
        rw [show (0 : Int32) = nI 0 from rfl, nn_inj (by omega) (by decide)]
        exact hb
      have h4 := Nat.mod_lt a (Nat.pos_of_ne_zero hb)
      rw [if_neg hn, if_neg hn, if_neg hn, nn_div h3 (by omega), nn_irm h3 (by omega), nn_add, show nI i + 1 = nI (i + 1) from nn_add i 1, cX5_cr F μ n (a % b) b (s + a / b) (i + 1) (by omega) (by omega) (by omega), cr_s hb, Nat.add_assoc]
theorem cX12_cr (F : Nat) (μ : Mm) : ∀ (n b a s : Nat), b < n → b < 2147483648 → a < 2147483648 → fX12_crossingsOf_L21 F n (nI a) (nI b) (nI s) μ = some (nI (s + cr a b), μ)
  | 0, _, _, _, h, _, _ => absurd h (Nat.not_lt_zero _)
  | n + 1, b, a, s, h2, h1, h3 => by
    rw [fX12_crossingsOf_L21]
    by_cases hb : b = 0
    · rw [if_pos (by rw [hb]; rfl), hb, cr_0]
      rfl
    · have hn : ¬ nI b = 0 := by
        rw [show (0 : Int32) = nI 0 from rfl, nn_inj (by omega) (by decide)]
        exact hb
      have h4 := Nat.mod_lt a (Nat.pos_of_ne_zero hb)
      rw [if_neg hn, if_neg hn, if_neg hn, nn_div h3 (by omega), nn_irm h3 (by omega), nn_add, cX12_cr F μ n (a % b) b (s + a / b) (by omega) (by omega) (by omega), cr_s hb, Nat.add_assoc]
/-- a tangle, as the class has it -/
abbrev Tg : Type := Int32 × Int32
def gcd1 (t : Tg) : Prop := Nat.gcd t.1.toInt.natAbs t.2.toInt.natAbs = 1
/-- a TANGLE -/
def tV (t : Tg) : Prop := -99 ≤ t.1.toInt ∧ t.1.toInt ≤ 99 ∧ 0 ≤ t.2.toInt ∧ t.2.toInt ≤ 99 ∧ gcd1 t ∧ (t.2.toInt = 0 → t.1.toInt = 1)
theorem tV_p0 {t : Tg} (h : tV t) (hp : t.1.toInt = 0) : t.2.toInt = 1 := by
  obtain ⟨h1, h2, h3, h4, h5, h6⟩ := h
  unfold gcd1 at h5
  rw [hp] at h5
  simp at h5
  omega
/-- the reference's number of a tangle -/
def enc (t : Tg) : Int32 := 200 * t.2 + t.1 + 100
theorem enc_toInt {t : Tg} (h : tV t) : (enc t).toInt = 200 * t.2.toInt + t.1.toInt + 100 := by
  obtain ⟨h1, h2, h3, h4, h5, h6⟩ := h
  unfold enc
  have e1 : (200 : Int32).toInt = 200 := rfl
  have e2 : (100 : Int32).toInt = 100 := rfl
  have m : (200 * t.2).toInt = 200 * t.2.toInt := by rw [tz_mul (by rw [e1]; omega), e1]
  rw [tz_add (by rw [e2, tz_add (by rw [m]; omega), m]; omega), tz_add (by rw [m]; omega), m, e2]
theorem enc_inj {t u : Tg} (ht : tV t) (hu : tV u) (h : enc t = enc u) : t = u := by
  have h1 := enc_toInt ht
  have h2 := enc_toInt hu
  rw [h, h2] at h1
  obtain ⟨a1, a2, a3, a4, a5, a6⟩ := ht
  obtain ⟨b1, b2, b3, b4, b5, b6⟩ := hu
  exact Prod.ext (Int32.toInt_inj.mp (by omega)) (Int32.toInt_inj.mp (by omega))
theorem enc_under {t : Tg} (h : tV t) : enc t / 200 = t.2 := by
  have h1 := enc_toInt h
  obtain ⟨a1, a2, a3, a4, a5, a6⟩ := h
  have e1 : (200 : Int32).toInt = 200 := rfl
  apply Int32.toInt_inj.mp
  rw [Int32.toInt_div, h1, e1, Int.tdiv_eq_ediv_of_nonneg (by omega), bm_id (by omega)]
  omega
theorem enc_over {t : Tg} (h : tV t) : irm (enc t) 200 - 100 = t.1 := by
  have h1 := enc_toInt h
  obtain ⟨a1, a2, a3, a4, a5, a6⟩ := h
  have e1 : (200 : Int32).toInt = 200 := rfl
  have e2 : (100 : Int32).toInt = 100 := rfl
  have e3 : (irm (enc t) 200).toInt = t.1.toInt + 100 := by
    rw [tz_irm, h1, e1, Int.tmod_eq_emod_of_nonneg (by omega)]
    omega
  apply Int32.toInt_inj.mp
  rw [tz_sub (by rw [e3, e2]; omega), e3, e2]
  omega
theorem p_over {F : Nat} {ν : Mm} {t : Tg} (h : tV t) : fX12_overOf F (enc t) ν = some (t.1, ν) := by
  unfold fX12_overOf
  rw [enc_over h]
theorem p_under {F : Nat} {ν : Mm} {t : Tg} (h : tV t) : fX12_underOf F (enc t) ν = some (t.2, ν) := by
  unfold fX12_underOf
  rw [enc_under h]
theorem p_off {F : Nat} {ν : Mm} {x : Int32} (h : -2147483648 < x.toInt) : fX12_off F x ν = some (ab x, ν) := by
  unfold fX12_off ab
  split
  · rfl
  · rw [show 0 - x = -x by simp]
/-- CROSSINGS, ENDS -/
def crS (t : Tg) : Int32 := nI (cr t.1.toInt.natAbs t.2.toInt.natAbs)
def enS (t : Tg) : Int32 := if t.1.toInt % 2 = 0 then 0 else if t.2.toInt % 2 = 0 then 2 else 1
/-- the class's tangle of a square -/
def tgC (μ : Mm) (i : Nat) : Tg := (gi μ 5 i 0, gi μ 5 i 1)
theorem p_crossC {F : Nat} {μ : Mm} {i : Nat} (hF : 1000 ≤ F) (h : tV (tgC μ i)) : fX5_crossings F i μ = some (crS (tgC μ i), μ) := by
  obtain ⟨a1, a2, a3, a4, a5, a6⟩ := h
  simp only [tgC] at a1 a2 a3 a4
  unfold fX5_crossings
  rw [nn_ab (by omega), nn_get a3, show (0 : Int32) = nI 0 from rfl, cX5_cr F μ F _ _ 0 0 (by omega) (by omega) (by omega)]
  show some (nI (0 + cr _ _), μ) = some (nI (cr _ _), μ)
  rw [Nat.zero_add, show (tgC μ i).2.toInt.natAbs = (gi μ 5 i 1).toInt.toNat by simp only [tgC]; omega]
  rfl
theorem p_crossR {F : Nat} {ν : Mm} {t : Tg} (hF : 1000 ≤ F) (h : tV t) : fX12_crossingsOf F (enc t) ν = some (crS t, ν) := by
  have h' := h
  obtain ⟨a1, a2, a3, a4, a5, a6⟩ := h'
  unfold fX12_crossingsOf
  rw [p_over h, bd2_s, p_off (by omega), bd2_s, p_under h, bd2_s, nn_ab (by omega)]
  unfold crS
  by_cases hq : t.2.toInt = 0
  · rw [if_pos (i_eq.mpr hq), hq]
    show _ = some (nI (cr _ 0), ν)
    rw [cr_0]
    rfl
  · rw [if_neg (fun q => hq (i_eq.mp q)), show t.2 = nI t.2.toInt.toNat from nn_get a3, show (0 : Int32) = nI 0 from rfl, cX12_cr F ν F _ _ 0 (by omega) (by omega) (by omega), Nat.zero_add, nI_toInt (by omega)]
    rfl
theorem and1 (x : Int32) : (x &&& 1 = 0) ↔ x.toInt % 2 = 0 := by
  have h1 := pk_and x (m := 1) 1 (by decide)
  rw [h1, show (0 : Int32) = nI 0 from rfl, nn_inj (by omega) (by decide)]
  have h2 : x.toInt = x.toBitVec.toInt := rfl
  rw [h2, BitVec.toInt_eq_toNat_bmod, Int.bmod_def]
  split <;> omega
theorem irm2 (x : Int32) : (irm x 2 = 0) ↔ x.toInt % 2 = 0 := by
  rw [i_eq, tz_irm, z0, show (2 : Int32).toInt = 2 from rfl]
  rcases Int.le_total 0 x.toInt with q | q
  · rw [Int.tmod_eq_emod_of_nonneg q]
  · rw [show x.toInt = -(-x.toInt) by omega, Int.neg_tmod, Int.tmod_eq_emod_of_nonneg (by omega)]
    omega
theorem p_endsOf {F : Nat} {μ : Mm} {p q : Int32} : fX5_endsOf F p q μ = some (enS (p, q), μ) := by
  unfold fX5_endsOf enS
  simp only [and1]
  split
  · rfl
  · split <;> rfl
theorem p_endsC {F : Nat} {μ : Mm} {i : Nat} : fX5_ends F i μ = some (enS (tgC μ i), μ) := by
  unfold fX5_ends
  rw [p_endsOf, bd2_s]
  rfl
theorem p_endsR {F : Nat} {ν : Mm} {t : Tg} (h : tV t) : fX12_endsOf F (enc t) ν = some (enS t, ν) := by
  unfold fX12_endsOf
  rw [p_over h, bd2_s, p_under h]
  simp only [irm2, bd2_s, enS]
  split
  · rfl
  · split <;> rfl
/-! MOVES -/
/-- a MOVE that may be told: what, k -/
def mvok (w : Int32 × Int32) : Prop := w.1 = 2 ∨ ((w.1 = 0 ∨ w.1 = 1) ∧ 1 ≤ w.2.toInt ∧ w.2.toInt ≤ 9)
def tnS (t : Tg) : Tg := if t.1.toInt < 0 then (t.2, -t.1) else if 0 < t.1.toInt then (-t.2, t.1) else (1, 0)
def twS (w : Int32 × Int32) (t : Tg) : Int32 := if w.1 = 0 then t.1 + w.2 * t.2 else t.1 - w.2 * t.2
/-- what a MOVE makes -/
def mk1 (w : Int32 × Int32) (t : Tg) : Option Tg := if w.1 = 2 then some (tnS t) else if -99 ≤ (twS w t).toInt ∧ (twS w t).toInt ≤ 99 then some (twS w t, t.2) else none
theorem tw_toInt {w : Int32 × Int32} {t : Tg} (hw : mvok w) (h2 : ¬ w.1 = 2) (ht : tV t) : (twS w t).toInt = (if w.1 = 0 then t.1.toInt + w.2.toInt * t.2.toInt else t.1.toInt - w.2.toInt * t.2.toInt) ∧ 0 ≤ w.2.toInt * t.2.toInt ∧ w.2.toInt * t.2.toInt ≤ 891 := by
  obtain ⟨a1, a2, a3, a4, a5, a6⟩ := ht
  have hk : 1 ≤ w.2.toInt ∧ w.2.toInt ≤ 9 := by
    rcases hw with q | ⟨_, q⟩
    · exact absurd q h2
    · exact q
  have b1 : 0 ≤ w.2.toInt * t.2.toInt := Int.mul_nonneg (by omega) a3
  have b2 : w.2.toInt * t.2.toInt ≤ 9 * 99 := Int.mul_le_mul hk.2 a4 a3 (by decide)
  have b3 : (w.2 * t.2).toInt = w.2.toInt * t.2.toInt := tz_mul (by omega)
  refine ⟨?_, b1, by omega⟩
  unfold twS
  split
  · rw [tz_add (by rw [b3]; omega), b3]
  · rw [tz_sub (by rw [b3]; omega), b3]
theorem gcd_add_mul (x y k : Int) : Nat.gcd (x + k * y).natAbs y.natAbs = Nat.gcd x.natAbs y.natAbs := by
  have h1 : Int.gcd (x + k * y) y = Int.gcd x y := by
    rw [Int.mul_comm]
    exact Int.gcd_add_mul_left_left ..
  exact h1
theorem tV_mk1 {w : Int32 × Int32} {t u : Tg} (hw : mvok w) (ht : tV t) (h : mk1 w t = some u) : tV u := by
  unfold mk1 at h
  have ht' := ht
  obtain ⟨a1, a2, a3, a4, a5, a6⟩ := ht
  split at h
  · cases h
    unfold tnS
    have n2 : (-t.2).toInt = -t.2.toInt := tz_neg (by omega)
    have n1 : (-t.1).toInt = -t.1.toInt := tz_neg (by omega)
    split
    · refine ⟨by show -99 ≤ t.2.toInt; omega, a4, by show 0 ≤ (-t.1).toInt; omega, by show (-t.1).toInt ≤ 99; omega, ?_, fun q => by
        have q' : (-t.1).toInt = 0 := q
        omega⟩
      show Nat.gcd t.2.toInt.natAbs (-t.1).toInt.natAbs = 1
      rw [n1, Int.natAbs_neg, Nat.gcd_comm]
      exact a5
    · split
      · refine ⟨by show -99 ≤ (-t.2).toInt; omega, by show (-t.2).toInt ≤ 99; omega, by show 0 ≤ t.1.toInt; omega, a2, ?_, fun q => by
          have q' : t.1.toInt = 0 := q
          omega⟩
        show Nat.gcd (-t.2).toInt.natAbs t.1.toInt.natAbs = 1
        rw [n2, Int.natAbs_neg, Nat.gcd_comm]
        exact a5
      · exact ⟨by decide, by decide, by decide, by decide, (by unfold gcd1; decide), fun _ => by decide⟩
  · rename_i hn
    split at h
    · rename_i hb
      cases h
      have e := (tw_toInt hw hn ht').1
      refine ⟨hb.1, hb.2, a3, a4, ?_, fun q => ?_⟩
      · show Nat.gcd (twS w t).toInt.natAbs t.2.toInt.natAbs = 1
        rw [e]
        split
        · rw [gcd_add_mul]
          exact a5
        · rw [show t.1.toInt - w.2.toInt * t.2.toInt = t.1.toInt + (-w.2.toInt) * t.2.toInt by rw [Int.neg_mul]; omega, gcd_add_mul]
          exact a5
      · show (twS w t).toInt = 1
        have q' : t.2.toInt = 0 := q
        have h6 := a6 q'
        rw [e, q', h6]
        split <;> simp
    · cases h
/-- the class's square gets a tangle -/
def pt (μ : Mm) (i : Nat) (t : Tg) : Mm := si (si μ 5 i 0 t.1) 5 i 1 t.2
theorem pt_q {μ : Mm} {i : Nat} {x : Int32} : si μ 5 i 0 x = pt μ i (x, gi μ 5 i 1) := by
  unfold pt
  have h : gi μ 5 i 1 = gi (si μ 5 i 0 x) 5 i 1 := by
    rw [gi_si, if_neg (by omega)]
  rw [h, si_same]
theorem pt_same {μ : Mm} {i : Nat} : pt μ i (tgC μ i) = μ := by
  unfold pt tgC
  have h : gi μ 5 i 1 = gi (si μ 5 i 0 (gi μ 5 i 0)) 5 i 1 := by
    rw [gi_si, if_neg (by omega)]
  show si (si μ 5 i 0 (gi μ 5 i 0)) 5 i 1 (gi μ 5 i 1) = μ
  rw [si_same, si_same]
theorem tgC_pt {μ : Mm} {i : Nat} {t : Tg} : tgC (pt μ i t) i = t := by
  unfold tgC pt
  simp [gi_si]
theorem pt_pt {μ : Mm} {i : Nat} {t u : Tg} : pt (pt μ i t) i u = pt μ i u := by
  unfold pt
  rw [si_comm (c := 5) (i := i) (j := 1) (c' := 5) (i' := i) (j' := 0) (by omega), si_si, si_si]
/-- a MOVE on the class's side -/
theorem p_makes1 {F : Nat} {μ : Mm} {i : Nat} {w : Int32 × Int32} (hw : mvok w) (ht : tV (tgC μ i)) : fX5_makes F i w.1 w.2 μ = match mk1 w (tgC μ i) with
    | some t => some (1, pt μ i t)
    | none => some (0, μ) := by
  unfold fX5_makes mk1
  by_cases h2 : w.1 = 2
  · rw [if_pos h2, if_pos h2]
    unfold fX5_turn tnS
    by_cases hp : 0 ≤ (gi μ 5 i 0).toInt
    · rw [if_pos (i_0le.mpr hp), if_neg (show ¬ (tgC μ i).1.toInt < 0 from fun q => absurd q (Int.not_lt.mpr hp))]
      by_cases hp2 : (gi μ 5 i 0).toInt ≤ 0
      · rw [if_pos (i_le0.mpr hp2), if_neg (show ¬ 0 < (tgC μ i).1.toInt from fun q => absurd q (Int.not_lt.mpr hp2))]
        rfl
      · rw [if_neg (fun q => hp2 (i_le0.mp q)), if_pos (show 0 < (tgC μ i).1.toInt from Int.not_le.mp hp2)]
        rfl
    · rw [if_neg (fun q => hp (i_0le.mp q)), if_pos (show (tgC μ i).1.toInt < 0 from Int.not_le.mp hp)]
      rfl
  · rw [if_neg h2, if_neg h2]
    have key : ∀ x : Int32, twS w (tgC μ i) = x → fX5_makes_L40 F i x μ = match (if -99 ≤ (twS w (tgC μ i)).toInt ∧ (twS w (tgC μ i)).toInt ≤ 99 then some (twS w (tgC μ i), (tgC μ i).2) else none) with
        | some t => some (1, pt μ i t)
        | none => some (0, μ) := fun x hx => by
      unfold fX5_makes_L40 fX5_isTangle
      rw [hx]
      simp only [i_lt, show (-99 : Int32).toInt = -99 from rfl, show (99 : Int32).toInt = 99 from rfl]
      by_cases h3 : x.toInt < -99
      · rw [if_pos h3, if_neg (by omega), bd2_s, if_pos rfl]
      · rw [if_neg h3]
        by_cases h4 : 99 < x.toInt
        · rw [if_pos h4, if_neg (by omega), bd2_s, if_pos rfl]
        · rw [if_neg h4, if_pos (by omega), bd2_s, if_neg (by decide)]
          show some (1, si μ 5 i 0 x) = some (1, pt μ i (x, gi μ 5 i 1))
          rw [pt_q]
    by_cases h0 : w.1 = 0
    · rw [if_pos h0]
      exact key _ (by unfold twS; rw [if_pos h0]; rfl)
    · rw [if_neg h0]
      exact key _ (by unfold twS; rw [if_neg h0]; rfl)
theorem enc_num {F : Nat} {ν : Mm} {t : Tg} : fX12_numberOf F t.1 t.2 ν = some (enc t, ν) := rfl
/-- a MOVE on the reference's side -/
theorem p_madeBy {F : Nat} {ν : Mm} {t : Tg} {w : Int32 × Int32} (hw : mvok w) (ht : tV t) : fX12_madeBy F (enc t) w.1 w.2 ν = match mk1 w t with
    | some u => some (enc u, ν)
    | none => some (-1, ν) := by
  have ht' := ht
  obtain ⟨a1, a2, a3, a4, a5, a6⟩ := ht'
  unfold fX12_madeBy
  rw [p_over ht, bd2_s, p_under ht, bd2_s]
  unfold mk1
  by_cases h2 : w.1 = 2
  · rw [if_pos h2, if_pos h2]
    unfold tnS
    by_cases hq : t.2.toInt = 0
    · rw [if_pos (i_eq.mpr hq)]
      have h1 := a6 hq
      have e1 : t.1 = 1 := i_eq.mpr h1
      have e2 : t.2 = 0 := i_eq.mpr hq
      rw [if_neg (by omega), if_pos (by omega)]
      show some (300, ν) = some (enc (-t.2, t.1), ν)
      rw [e1, e2]
      rfl
    · rw [if_neg (fun q => hq (i_eq.mp q))]
      by_cases hp : t.1.toInt = 0
      · rw [if_pos (i_eq.mpr hp), if_neg (by omega), if_neg (by omega)]
        rfl
      · rw [if_neg (fun q => hp (i_eq.mp q))]
        by_cases hp2 : t.1.toInt ≤ 0
        · rw [if_pos (i_le.mpr hp2), if_pos (by omega)]
          rfl
        · rw [if_neg (fun q => hp2 (i_le.mp q)), if_neg (by omega), if_pos (by omega)]
          rfl
  · rw [if_neg h2, if_neg h2]
    have e := tw_toInt hw h2 ht
    have key : ∀ x : Int32, twS w t = x → fX12_madeBy_L82 F t.2 x ν = match (if -99 ≤ (twS w t).toInt ∧ (twS w t).toInt ≤ 99 then some (twS w t, t.2) else none) with
        | some u => some (enc u, ν)
        | none => some (-1, ν) := fun x hx => by
      have hb : -1000 < x.toInt ∧ x.toInt < 1000 := by
        rw [← hx]
        have e1 := e.1
        split at e1 <;> omega
      unfold fX12_madeBy_L82
      rw [hx, p_off (by omega), bd2_s]
      have h9 : ab x ≤ 99 ↔ x.toInt.natAbs ≤ 99 := by
        rw [nn_ab (by omega), i_le, nI_toInt (by omega), show (99 : Int32).toInt = 99 from rfl]
        omega
      by_cases h3 : -99 ≤ x.toInt ∧ x.toInt ≤ 99
      · rw [if_pos (h9.mpr (by omega)), if_pos h3]
        rfl
      · rw [if_neg (fun q => by have := h9.mp q; omega), if_neg h3]
    by_cases hq : t.2 = 0
    · rw [if_pos hq]
      have hq' : t.2.toInt = 0 := i_eq.mp hq
      have h1 := a6 hq'
      have e1 := e.1
      have e3 : (twS w t).toInt = 1 := by
        rw [e1, hq', h1]
        split <;> simp
      rw [if_pos (by omega)]
      have e4 : twS w t = t.1 := i_eq.mpr (by omega)
      rw [e4]
    · rw [if_neg hq]
      by_cases h0 : w.1 = 0
      · rw [if_pos h0]
        exact key _ (by unfold twS; rw [if_pos h0])
      · rw [if_neg h0]
        exact key _ (by unfold twS; rw [if_neg h0])
