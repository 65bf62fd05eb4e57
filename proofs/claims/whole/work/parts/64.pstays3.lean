theorem sm3 {a b p q : Int32} (ha : a.toInt.natAbs ≤ 13528) (hb : b.toInt.natAbs ≤ 13528) (hp : p.toInt.natAbs ≤ 99) (hq : q.toInt.natAbs ≤ 99) : (a * p + b * q).toInt = a.toInt * p.toInt + b.toInt * q.toInt := by
  have m1 : (a.toInt * p.toInt).natAbs ≤ 13528 * 99 := by
    rw [Int.natAbs_mul]
    exact Nat.mul_le_mul ha hp
  have m2 : (b.toInt * q.toInt).natAbs ≤ 13528 * 99 := by
    rw [Int.natAbs_mul]
    exact Nat.mul_le_mul hb hq
  have e1 : (a * p).toInt = a.toInt * p.toInt := tz_mul (by omega)
  have e2 : (b * q).toInt = b.toInt * q.toInt := tz_mul (by omega)
  rw [tz_add (by omega), e1, e2]
def stI (t : Tb) (e p q : Int) : Prop := t.1.toInt * p + t.2.1.toInt * q = e * p ∧ t.2.2.1.toInt * p + t.2.2.2.toInt * q = e * q
theorem stay_i {t : Tb} {v : Tg} (hb : tBd 0 13528 t) (hv : tV v) : stay t v ↔ (stI t 1 v.1.toInt v.2.toInt ∨ stI t (-1) v.1.toInt v.2.toInt) := by
  obtain ⟨b1, b2, b3, b4⟩ := tBd_0 hb
  obtain ⟨h1, h2, h3, h4, h5, h6⟩ := hv
  have e1 := sm3 (p := v.1) (q := v.2) b1 b2 (by omega) (by omega)
  have e2 := sm3 (p := v.1) (q := v.2) b3 b4 (by omega) (by omega)
  have n1 : (-v.1).toInt = -v.1.toInt := tz_neg (by omega)
  have n2 : (-v.2).toInt = -v.2.toInt := tz_neg (by omega)
  unfold stay stI
  rw [i_eq, i_eq, i_eq, i_eq, e1, e2, n1, n2, Int.one_mul, Int.one_mul, Int.neg_mul, Int.neg_mul, Int.one_mul, Int.one_mul]
theorem st_tr {t : Tb} {e p q : Int} (hT : tOk t) (he : e * e = 1) (h : stI t e p q) : (2 - e * (t.1.toInt + t.2.2.2.toInt)) * p = 0 ∧ (2 - e * (t.1.toInt + t.2.2.2.toInt)) * q = 0 := by
  obtain ⟨h1, h2⟩ := h
  unfold tOk at hT
  generalize t.1.toInt = a at *
  generalize t.2.1.toInt = b at *
  generalize t.2.2.1.toInt = c at *
  generalize t.2.2.2.toInt = d at *
  have x1 : (d - e) * (a * p + b * q - e * p) - b * (c * p + d * q - e * q) = (2 - e * (a + d)) * p := by
    have k1 : p * (a * d - b * c) = p := by rw [hT, Int.mul_one]
    have k2 : p * (e * e) = p := by rw [he, Int.mul_one]
    grind
  have x2 : (a - e) * (c * p + d * q - e * q) - c * (a * p + b * q - e * p) = (2 - e * (a + d)) * q := by
    have k1 : q * (a * d - b * c) = q := by rw [hT, Int.mul_one]
    have k2 : q * (e * e) = q := by rw [he, Int.mul_one]
    grind
  rw [h1, h2, Int.sub_self, Int.sub_self, Int.mul_zero, Int.mul_zero, Int.sub_self] at x1
  rw [h1, h2, Int.sub_self, Int.sub_self, Int.mul_zero, Int.mul_zero, Int.sub_self] at x2
  exact ⟨x1.symm, x2.symm⟩
theorem st_2 {t : Tb} {e : Int} {v : Tg} (hT : tOk t) (he : e * e = 1) (hv : tV v) (h : stI t e v.1.toInt v.2.toInt) : e * (t.1.toInt + t.2.2.2.toInt) = 2 := by
  obtain ⟨h1, h2⟩ := st_tr hT he h
  rcases Int.mul_eq_zero.mp h1 with z | z
  · omega
  · rcases Int.mul_eq_zero.mp h2 with y | y
    · omega
    · have := tV_p0 hv z
      omega
/-- two whole fractions that are alike are the same -/
theorem frac_eq {x p : Int} {y q : Nat} (hy : 0 < y) (hq : 0 < q) (c1 : Nat.gcd x.natAbs y = 1) (c2 : Nat.gcd p.natAbs q = 1) (h : (y : Int) * p = x * q) : q = y ∧ p = x := by
  have hn : y * p.natAbs = x.natAbs * q := by
    have := congrArg Int.natAbs h
    rw [Int.natAbs_mul, Int.natAbs_mul] at this
    exact this
  have d1 : y ∣ q := Nat.Coprime.dvd_of_dvd_mul_left (k := y) (m := x.natAbs) (by rw [Nat.Coprime, Nat.gcd_comm]; exact c1) ⟨p.natAbs, hn.symm⟩
  have d2 : q ∣ y := Nat.Coprime.dvd_of_dvd_mul_right (k := q) (n := p.natAbs) (by rw [Nat.Coprime, Nat.gcd_comm]; exact c2) ⟨x.natAbs, by rw [hn, Nat.mul_comm]⟩
  have e : q = y := Nat.dvd_antisymm d2 d1
  refine ⟨e, ?_⟩
  rw [e, Int.mul_comm] at h
  exact Int.eq_of_mul_eq_mul_right (by omega) h
