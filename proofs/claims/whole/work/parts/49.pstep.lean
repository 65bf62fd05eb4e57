/-! PURE: one THING of undoing -/
def gR (t : Tg) : Nat := (t.1.toInt % t.2.toInt).toNat
def gD (t : Tg) : Int := t.1.toInt / t.2.toInt
def gLo (t : Tg) : Nat := (gD t).natAbs + fb t.2.toInt.toNat (gR t)
def gUp (t : Tg) : Nat := (gD t + 1).natAbs + fb t.2.toInt.toNat (t.2.toInt.toNat - gR t)
def glS (t : Tg) : Int32 := if t.2.toInt = 0 then t.1 else if gR t = 0 then 0 else if gUp t < gLo t then nI (gR t) - nI t.2.toInt.toNat else nI (gR t)
theorem gR_f {t : Tg} (h : 0 < t.2.toInt) : (gR t : Int) = t.1.toInt % t.2.toInt ∧ gR t < t.2.toInt.toNat ∧ t.1.toInt = t.2.toInt * gD t + gR t := by
  have h1 := Int.emod_nonneg t.1.toInt (show t.2.toInt ≠ 0 by omega)
  have h2 := Int.emod_lt_of_pos t.1.toInt h
  have h3 := Int.mul_ediv_add_emod t.1.toInt t.2.toInt
  have e : (gR t : Int) = t.1.toInt % t.2.toInt := by
    unfold gR
    omega
  refine ⟨e, by omega, ?_⟩
  unfold gD
  omega
theorem fm_i {p q : Int} (h : 0 < q) : p % q = if p.tmod q < 0 then p.tmod q + q else p.tmod q := by
  have h1 := Int.emod_nonneg p (show q ≠ 0 by omega)
  have h2 := Int.emod_lt_of_pos p h
  rw [Int.tmod_eq_emod]
  by_cases z : 0 ≤ p ∨ q ∣ p
  · rw [if_pos z]
    split <;> omega
  · rw [if_neg z]
    split <;> omega
theorem fmC {F : Nat} {t : Tg} {μ : Mm} (h : tV t) (hq : 0 < t.2.toInt) : fJ9_floorMod_7cf53 F t.1 t.2 μ = some (nI (gR t), μ) := by
  obtain ⟨e1, e2, e3⟩ := gR_f hq
  obtain ⟨h1, h2, h3, h4, h5, h6⟩ := h
  have ti := tz_irm t.1 t.2
  have fm := fm_i (p := t.1.toInt) hq
  unfold fJ9_floorMod_7cf53
  rw [if_neg (by rw [i_eq0]; omega)]
  have b1 : t.1.toInt.tmod t.2.toInt < t.2.toInt := Int.tmod_lt_of_pos _ hq
  have b2 : -t.2.toInt < t.1.toInt.tmod t.2.toInt := by
    have := Int.lt_tmod_of_pos t.1.toInt hq
    omega
  by_cases w : 0 ≤ (t.1 ^^^ t.2)
  · have p0 : 0 ≤ t.1.toInt := by
      rw [xor_nn] at w
      simp at w
      omega
    have := Int.tmod_nonneg t.2.toInt p0
    rw [if_pos w, show irm t.1 t.2 = nI (gR t) by rw [i_eq, ti, nI_toInt (by omega), e1, fm, if_neg (by omega)]]
  · have p0 : t.1.toInt < 0 := by
      rw [xor_nn] at w
      simp at w
      omega
    have np : t.1.toInt.tmod t.2.toInt ≤ 0 := by
      have := Int.tmod_nonneg t.2.toInt (show 0 ≤ -t.1.toInt by omega)
      rw [Int.neg_tmod] at this
      omega
    rw [if_neg w]
    by_cases z : irm t.1 t.2 = 0
    · have z1 := i_eq0.mp z
      rw [if_pos z, show irm t.1 t.2 = nI (gR t) by rw [i_eq, ti, nI_toInt (by omega), e1, fm, if_neg (by omega)]]
    · have z1 : (irm t.1 t.2).toInt ≠ 0 := fun y => z (i_eq0.mpr y)
      rw [if_neg z, show irm t.1 t.2 + t.2 = nI (gR t) by rw [i_eq, tz_add (by omega), ti, nI_toInt (by omega), e1, fm, if_pos (by omega)]]
theorem fmR {F : Nat} {t : Tg} {μ : Mm} (h : tV t) (hq : 0 < t.2.toInt) : fX12_restOf F t.1 t.2 μ = some (nI (gR t), μ) := by
  obtain ⟨e1, e2, e3⟩ := gR_f hq
  obtain ⟨h1, h2, h3, h4, h5, h6⟩ := h
  have ti := tz_irm t.1 t.2
  have fm := fm_i (p := t.1.toInt) hq
  have b1 : t.1.toInt.tmod t.2.toInt < t.2.toInt := Int.tmod_lt_of_pos _ hq
  have b2 : -t.2.toInt < t.1.toInt.tmod t.2.toInt := by
    have := Int.lt_tmod_of_pos t.1.toInt hq
    omega
  unfold fX12_restOf
  rw [if_neg (by rw [i_eq0]; omega)]
  by_cases w : 0 ≤ irm t.1 t.2
  · have w1 := i_0le.mp w
    rw [if_pos w, show irm t.1 t.2 = nI (gR t) by rw [i_eq, ti, nI_toInt (by omega), e1, fm, if_neg (by omega)]]
  · have w1 : (irm t.1 t.2).toInt < 0 := by
      rw [i_0le] at w
      omega
    rw [if_neg w, show irm t.1 t.2 + t.2 = nI (gR t) by rw [i_eq, tz_add (by omega), ti, nI_toInt (by omega), e1, fm, if_pos (by omega)]]
theorem fw_lo0 {p D : Int} {q R : Nat} (e2 : R < q) (e3 : p = q * D + R) (hr : R ≠ 0) : fw p.natAbs q = min (D.natAbs + fb q R) ((D + 1).natAbs + fb q (q - R)) := by
  by_cases hp : 0 ≤ D
  · obtain ⟨k, rfl⟩ : ∃ k : Nat, D = k := ⟨D.toNat, by omega⟩
    have eP : p.natAbs = q * k + R := by
      have : p = ((q * k + R : Nat) : Int) := by
        rw [e3, Int.natCast_add, Int.natCast_mul]
      rw [this]
      rfl
    rw [eP, fw_s (by omega), Nat.mul_add_mod, Nat.mul_add_div (by omega), Nat.mod_eq_of_lt e2, Nat.div_eq_of_lt e2, if_neg hr]
    omega
  · obtain ⟨k, rfl⟩ : ∃ k : Nat, D = -(k : Int) - 1 := ⟨(-D - 1).toNat, by omega⟩
    have eP : p.natAbs = q * k + (q - R) := by
      have : -p = ((q * k + (q - R) : Nat) : Int) := by
        rw [e3, Int.mul_sub, Int.mul_neg, Int.mul_one]
        simp only [Int.natCast_add, Int.natCast_mul]
        omega
      omega
    have e5 : q - R < q := by omega
    rw [eP, fw_s (by omega), Nat.mul_add_mod, Nat.mul_add_div (by omega), Nat.mod_eq_of_lt e5, Nat.div_eq_of_lt e5, if_neg (by omega), show q - (q - R) = R by omega]
    omega
theorem fw_lo {t : Tg} (hq : 0 < t.2.toInt) (hr : gR t ≠ 0) : fw t.1.toInt.natAbs t.2.toInt.natAbs = min (gLo t) (gUp t) := by
  obtain ⟨e1, e2, e3⟩ := gR_f hq
  rw [show t.2.toInt.natAbs = t.2.toInt.toNat by omega]
  exact fw_lo0 e2 (by rw [show ((t.2.toInt.toNat : Nat) : Int) = t.2.toInt by omega]; exact e3) hr
theorem g_b {t : Tg} (h : tV t) (hq : 0 < t.2.toInt) : (gD t).natAbs ≤ 99 ∧ gLo t ≤ 1000 ∧ gUp t ≤ 1000 := by
  obtain ⟨e1, e2, e3⟩ := gR_f hq
  obtain ⟨h1, h2, h3, h4, h5, h6⟩ := h
  have d : (gD t).natAbs ≤ 99 := by
    have d1 : gD t ≤ 99 := by
      unfold gD
      have := Int.ediv_le_ediv hq h2
      exact Int.le_trans this (Int.ediv_le_self _ (by omega))
    have d2 : -99 ≤ gD t := by
      unfold gD
      rw [Int.le_ediv_iff_mul_le hq]
      omega
    omega
  have b1 := fb_le (q := t.2.toInt.toNat) (r := gR t) e2
  unfold gLo gUp
  refine ⟨d, by omega, ?_⟩
  by_cases z : gR t = 0
  · unfold fb
    split
    · omega
    · have := fw_le (t.2.toInt.toNat - gR t + 1) t.2.toInt.toNat (t.2.toInt.toNat - gR t) (by omega) (by omega)
      omega
  · have b2 := fb_le (q := t.2.toInt.toNat) (r := t.2.toInt.toNat - gR t) (by omega)
    omega
theorem absD {t : Tg} (h : tV t) (hq : 0 < t.2.toInt) : ab (t.1 - nI (gR t)) / t.2 = nI (gD t).natAbs ∧ ab ((t.1 - nI (gR t)) + t.2) / t.2 = nI (gD t + 1).natAbs ∧ ab (t.1 - nI (gR t)) = nI (t.2.toInt.toNat * (gD t).natAbs) := by
  obtain ⟨e1, e2, e3⟩ := gR_f hq
  obtain ⟨d1, _, _⟩ := g_b h hq
  obtain ⟨h1, h2, h3, h4, h5, h6⟩ := h
  have eq : t.2 = nI t.2.toInt.toNat := nn_get h3
  have s1 : (t.1 - nI (gR t)).toInt = t.2.toInt * gD t := by
    rw [tz_sub (by rw [nI_toInt (by omega)]; omega), nI_toInt (by omega)]
    omega
  have s2 : ((t.1 - nI (gR t)) + t.2).toInt = t.2.toInt * (gD t + 1) := by
    rw [tz_add (by rw [s1]; omega), s1, Int.mul_add, Int.mul_one]
  have n1 : (t.2.toInt * gD t).natAbs = t.2.toInt.toNat * (gD t).natAbs := by
    rw [Int.natAbs_mul, show t.2.toInt.natAbs = t.2.toInt.toNat by omega]
  have n2 : (t.2.toInt * (gD t + 1)).natAbs = t.2.toInt.toNat * (gD t + 1).natAbs := by
    rw [Int.natAbs_mul, show t.2.toInt.natAbs = t.2.toInt.toNat by omega]
  have b1 : t.2.toInt.toNat * (gD t).natAbs ≤ 99 * 99 := Nat.mul_le_mul (by omega) d1
  have b2 : t.2.toInt.toNat * (gD t + 1).natAbs ≤ 99 * 100 := Nat.mul_le_mul (by omega) (by omega)
  have a1 : ab (t.1 - nI (gR t)) = nI (t.2.toInt.toNat * (gD t).natAbs) := by
    rw [nn_ab (by omega), s1, n1]
  have a2 : ab ((t.1 - nI (gR t)) + t.2) = nI (t.2.toInt.toNat * (gD t + 1).natAbs) := by
    rw [nn_ab (by omega), s2, n2]
  refine ⟨?_, ?_, a1⟩
  · rw [a1]
    rw [show nI (t.2.toInt.toNat * (gD t).natAbs) / t.2 = nI (t.2.toInt.toNat * (gD t).natAbs) / nI t.2.toInt.toNat by rw [← eq], nn_div (by omega) (by omega), Nat.mul_div_cancel_left _ (by omega)]
  · rw [a2]
    rw [show nI (t.2.toInt.toNat * (gD t + 1).natAbs) / t.2 = nI (t.2.toInt.toNat * (gD t + 1).natAbs) / nI t.2.toInt.toNat by rw [← eq], nn_div (by omega) (by omega), Nat.mul_div_cancel_left _ (by omega)]
theorem p_goalC {F : Nat} {t : Tg} {μ : Mm} (h : tV t) (hU : UW μ) : fX10_goalOf F t.1 t.2 μ = some (glS t, μ) := by
  unfold fX10_goalOf glS
  have hh := h
  obtain ⟨h1, h2, h3, h4, h5, h6⟩ := h
  by_cases w : t.2.toInt = 0
  · rw [if_pos w, if_neg (show ¬ (1 : Int32) ≤ t.2 by rw [i_eq0.mpr w]; decide)]
  have hq : 0 < t.2.toInt := by omega
  obtain ⟨e1, e2, e3⟩ := gR_f hq
  obtain ⟨d1, d2, d3⟩ := g_b hh hq
  obtain ⟨a1, a2, _⟩ := absD hh hq
  have z0 : ¬ t.2 = 0 := fun z => w (i_eq0.mp z)
  have eq : t.2 = nI t.2.toInt.toNat := nn_get h3
  have tb1 := tri_b (q := t.2.toInt.toNat) (r := gR t) (by omega) e2
  rw [if_neg w, if_pos (show (1 : Int32) ≤ t.2 from i_le.mpr (by show (1 : Int) ≤ _; omega)), fmC hh hq, bd2_s]
  by_cases r0 : gR t = 0
  · rw [if_pos r0, if_pos (by rw [r0]; rfl)]
  have r0' : ¬ nI (gR t) = 0 := by
    rw [show (0 : Int32) = nI 0 from rfl, nn_inj (by omega) (by omega)]
    exact r0
  have tb2 := tri_b (q := t.2.toInt.toNat) (r := t.2.toInt.toNat - gR t) (by omega) (by omega)
  have at1 : fX10_at F t.2 (nI (gR t)) μ = some (nI (tri t.2.toInt.toNat (gR t)), μ) := by
    rw [show fX10_at F t.2 (nI (gR t)) μ = fX10_at F (nI t.2.toInt.toNat) (nI (gR t)) μ by rw [← eq], p_at (by omega) (by omega) e2]
  have at2 : fX10_at F t.2 (t.2 - nI (gR t)) μ = some (nI (tri t.2.toInt.toNat (t.2.toInt.toNat - gR t)), μ) := by
    rw [show fX10_at F t.2 (t.2 - nI (gR t)) μ = fX10_at F (nI t.2.toInt.toNat) (nI t.2.toInt.toNat - nI (gR t)) μ by rw [← eq], nn_sub (by omega), p_at (by omega) (by omega) (by omega)]
  rw [if_neg r0, if_neg r0', if_neg z0, at1, bd2_s, if_pos ((nn_inb (by omega)).mpr tb1.1), if_neg z0, at2, bd2_s, if_pos ((nn_inb (by omega)).mpr tb2.1), a1, a2, nn_cl (by omega), nn_cl (by omega), show gi μ 46 0 (tri t.2.toInt.toNat (gR t)) = _ from (hU _ _ (by omega) (by omega) e2).1, show gi μ 46 0 (tri t.2.toInt.toNat (t.2.toInt.toNat - gR t)) = _ from (hU _ _ (by omega) (by omega) (by omega)).1, nn_add, nn_add]
  rw [show (gD t).natAbs + fb t.2.toInt.toNat (gR t) = gLo t from rfl, show (gD t + 1).natAbs + fb t.2.toInt.toNat (t.2.toInt.toNat - gR t) = gUp t from rfl]
  by_cases c : gUp t < gLo t
  · rw [if_pos c, if_pos ((nn_lt (by omega) (by omega)).mpr c), ← eq]
  · rw [if_neg c, if_neg (fun z => c ((nn_lt (by omega) (by omega)).mp z))]
/-- p and q and what is left after turns of the one ends -/
theorem tV_gl {t : Tg} {R : Nat} {g : Int32} {k : Int} (h : tV t) (hq : 0 < t.2.toInt) (hg : -99 ≤ g.toInt ∧ g.toInt ≤ 99) (hk : g.toInt = t.1.toInt + k * t.2.toInt) : tV (g, t.2) := by
  obtain ⟨h1, h2, h3, h4, h5, h6⟩ := h
  refine ⟨hg.1, hg.2, h3, h4, ?_, fun z => absurd z (by show ¬ t.2.toInt = 0; omega)⟩
  unfold gcd1 at *
  show Nat.gcd g.toInt.natAbs t.2.toInt.natAbs = 1
  rw [hk, gcd_add_mul]
  exact h5
theorem tV_R {t : Tg} (h : tV t) (hq : 0 < t.2.toInt) : tV (nI (gR t), t.2) := by
  obtain ⟨e1, e2, e3⟩ := gR_f hq
  have := h.2.2.2.1
  have e : (nI (gR t)).toInt = gR t := nI_toInt (by omega)
  refine tV_gl (R := 0) (k := -gD t) h hq (by omega) ?_
  rw [e, Int.neg_mul, Int.mul_comm]
  omega
theorem tV_glS {t : Tg} (h : tV t) : tV (glS t, t.2) ∧ (t.2.toInt ≠ 0 → (glS t).toInt.natAbs < t.2.toInt.toNat) ∧ (t.2.toInt = 0 → glS t = 1) := by
  have h6 := h.2.2.2.2.2
  have h4 := h.2.2.2.1
  have h3 := h.2.2.1
  by_cases w : t.2.toInt = 0
  · unfold glS
    rw [if_pos w]
    exact ⟨h, fun z => absurd w z, fun z => i_eq.mpr (h6 z)⟩
  have hq : 0 < t.2.toInt := by omega
  obtain ⟨e1, e2, e3⟩ := gR_f hq
  have e : (nI (gR t)).toInt = gR t := nI_toInt (by omega)
  have e' : (nI t.2.toInt.toNat).toInt = t.2.toInt := by
    rw [nI_toInt (by omega)]
    omega
  have hR := tV_R h hq
  refine ⟨?_, fun _ => ?_, fun z => absurd z w⟩
  · unfold glS
    rw [if_neg w]
    by_cases r0 : gR t = 0
    · rw [if_pos r0]
      rw [r0] at hR
      exact hR
    rw [if_neg r0]
    by_cases c : gUp t < gLo t
    · rw [if_pos c]
      have e4 : (nI (gR t) - nI t.2.toInt.toNat).toInt = gR t - t.2.toInt := by
        rw [tz_sub (by omega), e, e']
      refine tV_gl (R := 0) (k := -gD t - 1) h hq (by omega) ?_
      rw [e4, Int.sub_mul, Int.neg_mul, Int.mul_comm, Int.one_mul]
      omega
    · rw [if_neg c]
      exact hR
  · unfold glS
    rw [if_neg w]
    by_cases r0 : gR t = 0
    · rw [if_pos r0]
      show (0 : Int).natAbs < _
      omega
    rw [if_neg r0]
    by_cases c : gUp t < gLo t
    · rw [if_pos c, tz_sub (by omega), e, e']
      omega
    · rw [if_neg c, e]
      omega
theorem p_goalR {F : Nat} {t : Tg} {ν : Mm} (h : tV t) (hq : 0 < t.2.toInt) (hR : RU ν) : fX12_restAt F (enc t) ν = some (glS t, ν) := by
  obtain ⟨e1, e2, e3⟩ := gR_f hq
  obtain ⟨d1, d2, d3⟩ := g_b h hq
  obtain ⟨a1, a2, a3⟩ := absD h hq
  have h4 := h.2.2.2.1
  have h3 := h.2.2.1
  have w : ¬ t.2.toInt = 0 := by omega
  have z0 : ¬ t.2 = 0 := fun z => w (i_eq0.mp z)
  have eq : t.2 = nI t.2.toInt.toNat := nn_get h3
  unfold fX12_restAt glS fX12_restAt_L39
  rw [p_over h, bd2_s, p_under h, bd2_s, fmR h hq, bd2_s, if_neg w]
  by_cases r0 : gR t = 0
  · rw [if_pos r0, if_pos (by rw [r0]; rfl), r0]
    rfl
  have r0' : ¬ nI (gR t) = 0 := by
    rw [show (0 : Int32) = nI 0 from rfl, nn_inj (by omega) (by omega)]
    exact r0
  have tR := tV_R h hq
  have mk : mk1 (2, 0) (nI (gR t), t.2) = some (tnS (nI (gR t), t.2)) := by
    unfold mk1
    rw [if_pos rfl]
  have eR : (nI (gR t)).toInt = gR t := nI_toInt (by omega)
  have tn : tnS (nI (gR t), t.2) = (-t.2, nI (gR t)) := by
    unfold tnS
    rw [if_neg (by show ¬ (nI (gR t)).toInt < 0; omega), if_pos (by show 0 < (nI (gR t)).toInt; omega)]
  have tT : tV (-t.2, nI (gR t)) := by
    rw [← tn]
    exact tV_mk1 (Or.inl rfl) tR mk
  have md := p_madeBy (F := F) (ν := ν) (w := (2, 0)) (Or.inl rfl) tR
  rw [mk] at md
  have lw : fX12_leastWith F t.1 t.2 (nI (gR t)) ν = some (nI (gLo t), ν) := by
    unfold fX12_leastWith
    have b1 : t.2.toInt.toNat * (gD t).natAbs ≤ 99 * 99 := Nat.mul_le_mul (by omega) d1
    have n1 : (-t.2).toInt.natAbs = t.2.toInt.toNat := by
      rw [tz_neg (by omega)]
      omega
    have rb : -2147483648 < (t.1 - nI (gR t)).toInt := by
      have := h.1
      have := h.2.1
      rw [tz_sub (by omega)]
      omega
    rw [p_off rb, bd2_s, if_neg z0, if_neg r0', a1]
    rw [show fX12_numberOf F (nI (gR t)) t.2 ν = some (enc (nI (gR t), t.2), ν) from rfl, bd2_s]
    rw [show fX12_madeBy F (enc (nI (gR t), t.2)) 2 0 ν = some (enc (tnS (nI (gR t), t.2)), ν) from md, bd2_s, tn, if_pos (enc_in tT), (hR _ tT).1]
    rw [show (-t.2, nI (gR t)).1 = -t.2 from rfl, show (-t.2, nI (gR t)).2 = nI (gR t) from rfl, n1, eR, show ((gR t : Nat) : Int).natAbs = gR t from rfl, show (1 : Int32) = nI 1 from rfl, nn_add, nn_add]
    unfold gLo fb
    rw [if_neg r0]
  rw [if_neg r0, if_neg r0', lw, bd2_s, if_pos (enc_in h), (hR _ h).1, fw_lo hq r0]
  by_cases c : gUp t < gLo t
  · rw [if_pos c, if_neg (by rw [nn_inj (by omega) (by omega)]; omega), ← eq]
  · rw [if_neg c, if_pos (by rw [nn_inj (by omega) (by omega)]; omega)]
