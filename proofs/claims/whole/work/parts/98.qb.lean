def Sx (q P : Nat) (ν : Mm) : Prop := ∀ u : Tg, tV u → u.2.toInt < q ∨ (u.2.toInt = q ∧ u.1.toInt < (P : Int) - 99) → RUt ν u
def FU (c _ _ : Nat) : Prop := c = 77 ∨ c = 78
theorem p_fL {F q : Nat} {K : Int32 → Mm → Option Mm} (hF : 1000 ≤ F) (hq : 1 ≤ q) (hq2 : q < 100) : ∀ (d m P : Nat) (ν : Mm), P + d = 199 → d < m → Sx q P ν → ∃ ν', fX12_fillsUndoing_L27 F K m (nI q) (nI P - 99) ν = K (nI (q + 1)) ν' ∧ fr FU (fun _ => False) ν ν' ∧ Sx q 199 ν'
  | _, 0, _, _, _, h, _ => absurd h (Nat.not_lt_zero _)
  | 0, m + 1, P, ν, h1, h2, hs => by
    have e : (nI P - 99).toInt = (P : Int) - 99 := by
      rw [tz_sub (by rw [nI_toInt (by omega), show (99 : Int32).toInt = 99 from rfl]; omega), nI_toInt (by omega)]
      rfl
    rw [fX12_fillsUndoing_L27, if_pos (by rw [i_le, e, show (100 : Int32).toInt = 100 from rfl]; omega), nn_s]
    have : P = 199 := by omega
    subst this
    exact ⟨ν, rfl, fr_rfl, hs⟩
  | d + 1, m + 1, P, ν, h1, h2, hs => by
    obtain ⟨v1, v2, v3⟩ := vC_iff (P := P) (q := q) (by omega) hq2
    rw [fX12_fillsUndoing_L27, if_neg (by rw [i_le, v2, show (100 : Int32).toInt = 100 from rfl]; omega), p_isT hF (by omega) hq2, bd2_s]
    have nx : nI P - 99 + 1 = nI (P + 1) - 99 := by
      have e2 : (nI (P + 1) - 99).toInt = (P : Int) + 1 - 99 := by
        rw [tz_sub (by rw [nI_toInt (by omega), show (99 : Int32).toInt = 99 from rfl]; omega), nI_toInt (by omega), show (99 : Int32).toInt = 99 from rfl]
        omega
      rw [i_eq, tz_add (by rw [v2, show (1 : Int32).toInt = 1 from rfl]; omega), v2, e2, show (1 : Int32).toInt = 1 from rfl]
      omega
    have un : ∀ u : Tg, u.2.toInt = q → u.1.toInt = (P : Int) - 99 → u = (nI P - 99, nI q) := fun u w1 w2 => Prod.ext (i_eq.mpr (w2.trans v2.symm)) (i_eq.mpr (w1.trans v3.symm))
    have go : ∀ ν1, fr FU (fun _ => False) ν ν1 → Sx q (P + 1) ν1 → ∃ ν', fX12_fillsUndoing_L47 F (fun v1 v2 μ => fX12_fillsUndoing_L27 F K m v1 v2 μ) (nI q) (nI P - 99) ν1 = K (nI (q + 1)) ν' ∧ fr FU (fun _ => False) ν ν' ∧ Sx q 199 ν' := fun ν1 f1 s1 => by
      obtain ⟨ν', r1, r2, r3⟩ := p_fL hF hq hq2 d m (P + 1) ν1 (by omega) (by omega) s1
      unfold fX12_fillsUndoing_L47
      rw [nx]
      exact ⟨ν', r1, fr_tr f1 r2, r3⟩
    cases hv : vCode P q with
    | false =>
      rw [show b01 false = 0 from rfl, if_pos rfl]
      refine go ν fr_rfl (fun u hu hc => ?_)
      by_cases y : u.2.toInt = q ∧ u.1.toInt = (P : Int) - 99
      · have := un u y.1 y.2
        rw [this] at hu
        rw [v1.mpr hu] at hv
        cases hv
      · exact hs u hu (by omega)
    | true =>
      have tv := v1.mp hv
      rw [show b01 true = 1 from rfl, if_neg n1_0]
      obtain ⟨ν1, f1, f2, f3⟩ := p_fill (F := F) (ν := ν) tv (by show 0 < (nI q).toInt; omega) (fun u hu hc => hs u hu (Or.inl (by have hc : u.2.toInt < (nI q).toInt := hc; omega)))
      have f1 : fX12_fillsOne F (nI P - 99) (nI q) ν = some ν1 := f1
      rw [f1, bd1_s]
      refine go ν1 (fr_of f2 (fun c i j w => w.1) (fun c w => w)) (fun u hu hc => ?_)
      by_cases y : u.2.toInt = q ∧ u.1.toInt = (P : Int) - 99
      · rw [un u y.1 y.2]
        exact f3
      · have ne : ¬ (enc u).toNatClampNeg = (enc (nI P - 99, nI q)).toNatClampNeg := fun w => by
          have x1 := enc_toInt hu
          have x2 := enc_toInt tv
          have w' : (enc u).toInt.toNat = (enc (nI P - 99, nI q)).toInt.toNat := w
          have a1 := hu.1
          have a2 := hu.2.2.1
          have a3 := tv.1
          have a4 := tv.2.2.1
          have := enc_inj hu tv (i_eq.mpr (by omega))
          rw [this] at y
          exact y ⟨v3, v2⟩
        obtain ⟨x1, x2⟩ := hs u hu (by omega)
        exact ⟨(fr_n f2 (by omega)).trans x1, (fr_n f2 (by omega)).trans x2⟩
theorem p_fO {F : Nat} (hF : 1000 ≤ F) : ∀ (d m q : Nat) (ν : Mm), q + d = 100 → 1 ≤ q → d < m → Sx q 0 ν → ∃ ν', fX12_fillsUndoing_L18 F m (nI q) ν = some ν' ∧ fr FU (fun _ => False) ν ν' ∧ Sx 100 0 ν'
  | _, 0, _, _, _, _, h, _ => absurd h (Nat.not_lt_zero _)
  | 0, m + 1, q, ν, h1, h0, h2, hs => by
    rw [fX12_fillsUndoing_L18, if_pos (by rw [show (100 : Int32) = nI 100 from rfl, nn_le (by omega) (by omega)]; omega)]
    have : q = 100 := by omega
    subst this
    exact ⟨ν, rfl, fr_rfl, hs⟩
  | d + 1, m + 1, q, ν, h1, h0, h2, hs => by
    rw [fX12_fillsUndoing_L18, if_neg (by rw [show (100 : Int32) = nI 100 from rfl, nn_le (by omega) (by omega)]; omega)]
    obtain ⟨ν1, r1, r2, r3⟩ := p_fL (K := fun v1 μ => fX12_fillsUndoing_L18 F m v1 μ) hF h0 (by omega) 199 F 0 ν rfl (by omega) hs
    obtain ⟨ν', s1, s2, s3⟩ := p_fO hF d m (q + 1) ν1 (by omega) (by omega) (by omega) (fun u hu hc => r3 u hu (by have := hu.1; have := hu.2.1; omega))
    have r1' : fX12_fillsUndoing_L27 F (fun v1 μ => fX12_fillsUndoing_L18 F m v1 μ) F (nI q) (-99) ν = _ := r1
    rw [r1']
    exact ⟨ν', s1, fr_tr r2 s2, s3⟩
theorem p_fills {F : Nat} {ν : Mm} (hF : 1000 ≤ F) : ∃ ν', fX12_fillsUndoing F ν = some ν' ∧ fr FU (fun _ => False) ν ν' ∧ RU ν' := by
  unfold fX12_fillsUndoing
  obtain ⟨ν', r1, r2, r3⟩ := p_fO (F := F) hF 99 F 1 (si (si ν 77 0 101 1) 78 0 101 1) rfl (Nat.le_refl _) (by omega) (fun u hu hc => by
    have h0 := hu.2.2.1
    have h1 := hu.1
    have w : u.2.toInt = 0 := by omega
    have w1 := hu.2.2.2.2.2 w
    have e : u = (1, 0) := Prod.ext (i_eq.mpr w1) (i_eq.mpr w)
    subst e
    exact ⟨rfl, rfl⟩)
  exact ⟨ν', r1, fr_tr (fr_tr (fr_si (Or.inl rfl)) (fr_si (Or.inr rfl))) r2, fun t ht => r3 t ht (Or.inl (by have := ht.2.2.2.1; omega))⟩
