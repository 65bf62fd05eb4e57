/-! PURE: the reference's tables of undoing are filled -/
def RUt (ν : Mm) (t : Tg) : Prop := gi ν 77 0 (enc t).toNatClampNeg = nI (fw t.1.toInt.natAbs t.2.toInt.natAbs) ∧ gi ν 78 0 (enc t).toNatClampNeg = hm t.1.toInt.natAbs t.2.toInt.natAbs
theorem hm_lo0 {p D : Int} {q R : Nat} (e2 : R < q) (e3 : p = q * D + R) (hr : R ≠ 0) : hm p.natAbs q = wb q R + wb q (q - R) := by
  by_cases hp : 0 ≤ D
  · obtain ⟨k, rfl⟩ : ∃ k : Nat, D = k := ⟨D.toNat, by omega⟩
    have eP : p.natAbs = q * k + R := by
      have : p = ((q * k + R : Nat) : Int) := by
        rw [e3, Int.natCast_add, Int.natCast_mul]
      rw [this]
      rfl
    rw [eP, hm_s (by omega), Nat.mul_add_mod, Nat.mod_eq_of_lt e2, if_neg hr]
  · obtain ⟨k, rfl⟩ : ∃ k : Nat, D = -(k : Int) - 1 := ⟨(-D - 1).toNat, by omega⟩
    have eP : p.natAbs = q * k + (q - R) := by
      have : -p = ((q * k + (q - R) : Nat) : Int) := by
        rw [e3, Int.mul_sub, Int.mul_neg, Int.mul_one]
        simp only [Int.natCast_add, Int.natCast_mul]
        omega
      omega
    have e5 : q - R < q := by omega
    rw [eP, hm_s (by omega), Nat.mul_add_mod, Nat.mod_eq_of_lt e5, if_neg (by omega), show q - (q - R) = R by omega]
    exact Int32.add_comm _ _
theorem gR0 {t : Tg} (hq : 0 < t.2.toInt) (hr : gR t = 0) : fw t.1.toInt.natAbs t.2.toInt.natAbs = (gD t).natAbs ∧ hm t.1.toInt.natAbs t.2.toInt.natAbs = 1 := by
  obtain ⟨e1, e2, e3⟩ := gR_f hq
  have a : t.1.toInt.natAbs = t.2.toInt.natAbs * (gD t).natAbs := by
    rw [← Int.natAbs_mul, e3, hr]
    simp
  have z : t.2.toInt.natAbs ≠ 0 := by omega
  rw [fw_s z, hm_s z, a, Nat.mul_mod_right, if_pos rfl, if_pos rfl, Nat.mul_div_cancel_left _ (by omega)]
  exact ⟨rfl, rfl⟩
/-- the two tangles that a THING of undoing leads to -/
theorem tn_two {t : Tg} (h : tV t) (hq : 0 < t.2.toInt) (r0 : gR t ≠ 0) : (tV (-t.2, nI (gR t)) ∧ ∀ (F : Nat) (ν : Mm), fX12_madeBy F (200 * t.2 + nI (gR t) + 100) 2 0 ν = some (enc (-t.2, nI (gR t)), ν)) ∧ (tV (t.2, nI (t.2.toInt.toNat - gR t)) ∧ ∀ (F : Nat) (ν : Mm), fX12_madeBy F (200 * t.2 + (nI (gR t) - t.2) + 100) 2 0 ν = some (enc (t.2, nI (t.2.toInt.toNat - gR t)), ν)) := by
  obtain ⟨e1, e2, e3⟩ := gR_f hq
  have h4 := h.2.2.2.1
  have h3 := h.2.2.1
  have eR : (nI (gR t)).toInt = gR t := nI_toInt (by omega)
  have eq : t.2 = nI t.2.toInt.toNat := nn_get h3
  have tR := tV_R h hq
  have es : (nI (gR t) - t.2).toInt = gR t - t.2.toInt := by rw [tz_sub (by omega), eR]
  have tL : tV (nI (gR t) - t.2, t.2) := by
    refine tV_gl (R := 0) (k := -gD t - 1) h hq (by omega) ?_
    rw [es, Int.sub_mul, Int.neg_mul, Int.mul_comm, Int.one_mul]
    omega
  have mk : ∀ u : Tg, mk1 (2, 0) u = some (tnS u) := fun u => by
    unfold mk1
    rw [if_pos rfl]
  have n1 : tnS (nI (gR t), t.2) = (-t.2, nI (gR t)) := by
    unfold tnS
    rw [if_neg (by show ¬ (nI (gR t)).toInt < 0; omega), if_pos (by show 0 < (nI (gR t)).toInt; omega)]
  have en : -(nI (gR t) - t.2) = nI (t.2.toInt.toNat - gR t) := by
    rw [i_eq, tz_neg (by omega), es, nI_toInt (by omega)]
    omega
  have n2 : tnS (nI (gR t) - t.2, t.2) = (t.2, nI (t.2.toInt.toNat - gR t)) := by
    unfold tnS
    rw [if_pos (by show (nI (gR t) - t.2).toInt < 0; omega), en]
  refine ⟨⟨?_, fun F ν => ?_⟩, ?_, fun F ν => ?_⟩
  · rw [← n1]
    exact tV_mk1 (Or.inl rfl) tR (mk _)
  · have md := p_madeBy (F := F) (ν := ν) (w := (2, 0)) (Or.inl rfl) tR
    rw [mk, n1] at md
    exact md
  · rw [← n2]
    exact tV_mk1 (Or.inl rfl) tL (mk _)
  · have md := p_madeBy (F := F) (ν := ν) (w := (2, 0)) (Or.inl rfl) tL
    rw [mk, n2] at md
    exact md
theorem p_fill {F : Nat} {t : Tg} {ν : Mm} (h : tV t) (hq : 0 < t.2.toInt) (hS : ∀ u, tV u → u.2.toInt < t.2.toInt → RUt ν u) : ∃ ν', fX12_fillsOne F t.1 t.2 ν = some ν' ∧ fr (fun c _ j => (c = 77 ∨ c = 78) ∧ j = (enc t).toNatClampNeg) (fun _ => False) ν ν' ∧ RUt ν' t := by
  obtain ⟨e1, e2, e3⟩ := gR_f hq
  obtain ⟨d1, d2, d3⟩ := g_b h hq
  obtain ⟨a1, a2, a3⟩ := absD h hq
  have h4 := h.2.2.2.1
  have h3 := h.2.2.1
  have hp1 := h.1
  have hp2 := h.2.1
  have z0 : ¬ t.2 = 0 := fun z => absurd (i_eq0.mp z) (by omega)
  have eq : t.2 = nI t.2.toInt.toNat := nn_get h3
  have eA : t.2.toInt.natAbs = t.2.toInt.toNat := by omega
  have eR : (nI (gR t)).toInt = gR t := nI_toInt (by omega)
  have rb : -2147483648 < (t.1 - nI (gR t)).toInt := by rw [tz_sub (by omega)]; omega
  unfold fX12_fillsOne
  rw [show fX12_numberOf F t.1 t.2 ν = some (enc t, ν) from rfl, bd2_s, fmR h hq, bd2_s]
  by_cases r0 : gR t = 0
  · have g0 := gR0 hq r0
    have lw : fX12_leastWith F t.1 t.2 (nI (gR t)) ν = some (nI (gD t).natAbs, ν) := by
      unfold fX12_leastWith
      rw [p_off rb, bd2_s, if_neg z0, if_pos (by rw [r0]; rfl), a1, show (0 : Int32) = nI 0 from rfl, nn_add]
      rfl
    rw [lw, bd2_s, if_pos (enc_in h), if_pos (by rw [r0]; rfl)]
    refine ⟨_, rfl, fr_tr (fr_si ⟨Or.inl rfl, rfl⟩) (fr_si ⟨Or.inr rfl, rfl⟩), ?_, ?_⟩
    · rw [gi_ne (by omega), gi_eq, g0.1]
    · rw [gi_eq, g0.2]
  have r0' : ¬ nI (gR t) = 0 := by
    rw [show (0 : Int32) = nI 0 from rfl, nn_inj (by omega) (by omega)]
    exact r0
  obtain ⟨⟨v1, md1⟩, v2, md2⟩ := tn_two h hq r0
  have u2 : (nI (t.2.toInt.toNat - gR t)).toInt = t.2.toInt - gR t := by
    rw [nI_toInt (by omega)]
    omega
  have s1 := hS _ v1 (by show (nI (gR t)).toInt < _; omega)
  have s2 := hS _ v2 (by show (nI (t.2.toInt.toNat - gR t)).toInt < _; omega)
  have c1 : ¬ (enc (-t.2, nI (gR t))).toNatClampNeg = (enc t).toNatClampNeg := fun w => by
    have x1 := enc_toInt v1
    have x2 := enc_toInt h
    have y1 : ((-t.2, nI (gR t)) : Tg).2.toInt = gR t := eR
    have y2 : ((-t.2, nI (gR t)) : Tg).1.toInt = -t.2.toInt := tz_neg (by omega)
    have w' : (enc (-t.2, nI (gR t))).toInt.toNat = (enc t).toInt.toNat := w
    have := enc_inj v1 h (i_eq.mpr (by omega))
    have k : (nI (gR t)).toInt = t.2.toInt := congrArg (fun u : Tg => u.2.toInt) this
    omega
  have c2 : ¬ (enc (t.2, nI (t.2.toInt.toNat - gR t))).toNatClampNeg = (enc t).toNatClampNeg := fun w => by
    have x1 := enc_toInt v2
    have x2 := enc_toInt h
    have y1 : ((t.2, nI (t.2.toInt.toNat - gR t)) : Tg).2.toInt = t.2.toInt - gR t := u2
    have y2 : ((t.2, nI (t.2.toInt.toNat - gR t)) : Tg).1.toInt = t.2.toInt := rfl
    have w' : (enc (t.2, nI (t.2.toInt.toNat - gR t))).toInt.toNat = (enc t).toInt.toNat := w
    have := enc_inj v2 h (i_eq.mpr (by omega))
    have k : (nI (t.2.toInt.toNat - gR t)).toInt = t.2.toInt := congrArg (fun u : Tg => u.2.toInt) this
    omega
  have n1 : (-t.2).toInt.natAbs = t.2.toInt.toNat := by
    rw [tz_neg (by omega)]
    omega
  have s1a : gi ν 77 0 (enc (-t.2, nI (gR t))).toNatClampNeg = nI (fw t.2.toInt.toNat (gR t)) ∧ gi ν 78 0 (enc (-t.2, nI (gR t))).toNatClampNeg = hm t.2.toInt.toNat (gR t) := by
    obtain ⟨x1, x2⟩ := s1
    have y1 : ((-t.2, nI (gR t)) : Tg).2.toInt.natAbs = gR t := by
      show (nI (gR t)).toInt.natAbs = _
      omega
    have y2 : ((-t.2, nI (gR t)) : Tg).1.toInt.natAbs = t.2.toInt.toNat := n1
    rw [y1, y2] at x1 x2
    exact ⟨x1, x2⟩
  have s2a : gi ν 77 0 (enc (t.2, nI (t.2.toInt.toNat - gR t))).toNatClampNeg = nI (fw t.2.toInt.toNat (t.2.toInt.toNat - gR t)) ∧ gi ν 78 0 (enc (t.2, nI (t.2.toInt.toNat - gR t))).toNatClampNeg = hm t.2.toInt.toNat (t.2.toInt.toNat - gR t) := by
    obtain ⟨x1, x2⟩ := s2
    have y1 : ((t.2, nI (t.2.toInt.toNat - gR t)) : Tg).2.toInt.natAbs = t.2.toInt.toNat - gR t := by
      show (nI (t.2.toInt.toNat - gR t)).toInt.natAbs = _
      omega
    have y2 : ((t.2, nI (t.2.toInt.toNat - gR t)) : Tg).1.toInt.natAbs = t.2.toInt.toNat := eA
    rw [y1, y2] at x1 x2
    exact ⟨x1, x2⟩
  have lw : fX12_leastWith F t.1 t.2 (nI (gR t)) ν = some (nI (gLo t), ν) := by
    unfold fX12_leastWith
    rw [p_off rb, bd2_s, if_neg z0, if_neg r0', a1]
    rw [show fX12_numberOf F (nI (gR t)) t.2 ν = some (200 * t.2 + nI (gR t) + 100, ν) from rfl, bd2_s, md1, bd2_s, if_pos (enc_in v1), s1a.1, show (1 : Int32) = nI 1 from rfl, nn_add, nn_add]
    unfold gLo fb
    rw [if_neg r0]
  rw [lw, bd2_s, if_pos (enc_in h), if_neg r0']
  generalize hν1 : si (si ν 77 0 (enc t).toNatClampNeg (nI (gLo t))) 78 0 (enc t).toNatClampNeg 1 = ν1
  have f1 : fr (fun c _ j => (c = 77 ∨ c = 78) ∧ j = (enc t).toNatClampNeg) (fun _ => False) ν ν1 := by
    rw [← hν1]
    exact fr_tr (fr_si ⟨Or.inl rfl, rfl⟩) (fr_si ⟨Or.inr rfl, rfl⟩)
  have k77 : gi ν1 77 0 (enc t).toNatClampNeg = nI (gLo t) := by rw [← hν1, gi_ne (by omega), gi_eq]
  have eS : t.1 - (nI (gR t) - t.2) = (t.1 - nI (gR t)) + t.2 := by
    have q1 : (nI (gR t) - t.2).toInt = gR t - t.2.toInt := by rw [tz_sub (by omega), eR]
    have q2 : (t.1 - nI (gR t)).toInt = t.1.toInt - gR t := by rw [tz_sub (by omega), eR]
    rw [i_eq, tz_sub (by omega), tz_add (by omega), q1, q2]
    omega
  have r1' : ¬ nI (gR t) - t.2 = 0 := fun w => by
    have q1 : (nI (gR t) - t.2).toInt = gR t - t.2.toInt := by rw [tz_sub (by omega), eR]
    have := i_eq0.mp w
    omega
  have rb2 : -2147483648 < ((t.1 - nI (gR t)) + t.2).toInt := by
    have q2 : (t.1 - nI (gR t)).toInt = t.1.toInt - gR t := by rw [tz_sub (by omega), eR]
    rw [tz_add (by omega)]
    omega
  have lw2 : fX12_leastWith F t.1 t.2 (nI (gR t) - t.2) ν1 = some (nI (gUp t), ν1) := by
    unfold fX12_leastWith
    rw [eS, p_off rb2, bd2_s, if_neg z0, if_neg r1', a2]
    rw [show fX12_numberOf F (nI (gR t) - t.2) t.2 ν1 = some (200 * t.2 + (nI (gR t) - t.2) + 100, ν1) from rfl, bd2_s, md2, bd2_s, if_pos (enc_in v2), fr_n f1 (by omega), s2a.1, show (1 : Int32) = nI 1 from rfl, nn_add, nn_add]
    unfold gUp fb
    rw [if_neg (by omega)]
  rw [lw2, bd2_s, k77]
  have fin : ∀ (ν2 : Mm), fr (fun c _ j => (c = 77 ∨ c = 78) ∧ j = (enc t).toNatClampNeg) (fun _ => False) ν ν2 → gi ν2 77 0 (enc t).toNatClampNeg = nI (min (gLo t) (gUp t)) → ∃ ν', fX12_fillsOne_L71 F t.2 (enc t) (nI (gR t)) ν2 = some ν' ∧ fr (fun c _ j => (c = 77 ∨ c = 78) ∧ j = (enc t).toNatClampNeg) (fun _ => False) ν ν' ∧ RUt ν' t := fun ν2 f2 k2 => by
    unfold fX12_fillsOne_L71
    rw [show fX12_numberOf F (nI (gR t)) t.2 ν2 = some (200 * t.2 + nI (gR t) + 100, ν2) from rfl, bd2_s, md1, bd2_s, if_pos (enc_in v1), show fX12_numberOf F (nI (gR t) - t.2) t.2 ν2 = some (200 * t.2 + (nI (gR t) - t.2) + 100, ν2) from rfl, bd2_s, md2, bd2_s, if_pos (enc_in v2), if_pos (enc_in h), fr_n f2 (by omega), fr_n f2 (by omega), s1a.2, s2a.2]
    refine ⟨_, rfl, fr_tr f2 (fr_si ⟨Or.inr rfl, rfl⟩), ?_, ?_⟩
    · rw [gi_ne (by omega), k2, fw_lo hq r0]
    · rw [gi_eq, eA, hm_lo0 (D := gD t) e2 (by rw [show ((t.2.toInt.toNat : Nat) : Int) = t.2.toInt by omega]; exact e3) r0]
      unfold wb
      rw [if_neg r0, if_neg (by omega)]
  by_cases c : gUp t < gLo t
  · rw [if_neg (fun w => absurd ((nn_le (by omega) (by omega)).mp w) (by omega))]
    exact fin _ (fr_tr f1 (fr_si ⟨Or.inl rfl, rfl⟩)) (by rw [gi_eq, Nat.min_eq_right (by omega)])
  · rw [if_pos ((nn_le (by omega) (by omega)).mpr (by omega))]
    exact fin _ f1 (by rw [k77, Nat.min_eq_left (by omega)])
