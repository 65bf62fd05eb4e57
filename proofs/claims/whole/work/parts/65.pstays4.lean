theorem stay_frac {t : Tb} {e s x : Int} {g y : Nat} (hT : tOk t) (ht : t.1.toInt + t.2.2.2.toInt = 2 * e) (he : e = 1 ∨ e = -1) (hs1 : s = 1 ∨ s = -1) (hs : s * (t.1.toInt - t.2.2.2.toInt) = g * x) (hC : s * (2 * t.2.2.1.toInt) = g * y) (hg : 0 < g) (hy : 0 < y) (hxy : Nat.gcd x.natAbs y = 1) : (∀ v, tV v → (stI t 1 v.1.toInt v.2.toInt ∨ stI t (-1) v.1.toInt v.2.toInt) → v.1.toInt = x ∧ v.2.toInt = y) ∧ stI t e x y := by
  have hg' : (g : Int) ≠ 0 := by omega
  constructor
  · intro v hv h
    obtain ⟨e', e1, h'⟩ : ∃ e' : Int, e' * e' = 1 ∧ stI t e' v.1.toInt v.2.toInt := by
      rcases h with h | h
      · exact ⟨1, by decide, h⟩
      · exact ⟨-1, by decide, h⟩
    have e2 := st_2 hT e1 hv h'
    rw [ht] at e2
    have ee : e' = e := by
      rcases he with rfl | rfl <;> omega
    subst ee
    have h2 := h'.2
    have hq := hv.2.2.1
    have eq2 : 2 * (t.2.2.1.toInt * v.1.toInt) = (t.1.toInt - t.2.2.2.toInt) * v.2.toInt := by
      have : (t.1.toInt + t.2.2.2.toInt) * v.2.toInt = 2 * (e' * v.2.toInt) := by rw [ht, Int.mul_assoc]
      rw [Int.add_mul] at this
      rw [Int.sub_mul]
      omega
    have eq3 : (y : Int) * v.1.toInt = x * v.2.toInt := by
      refine Int.eq_of_mul_eq_mul_left hg' ?_
      have k1 : (g : Int) * (y * v.1.toInt) = s * (2 * (t.2.2.1.toInt * v.1.toInt)) := by
        rw [← Int.mul_assoc, ← hC]
        grind
      have k2 : (g : Int) * (x * v.2.toInt) = s * ((t.1.toInt - t.2.2.2.toInt) * v.2.toInt) := by
        rw [← Int.mul_assoc, ← hs, Int.mul_assoc]
      rw [k1, k2, eq2]
    have q0 : 0 < v.2.toInt := by
      rcases (show v.2.toInt = 0 ∨ 0 < v.2.toInt by omega) with z | z
      · rw [z, Int.mul_zero] at eq3
        have p1 := hv.2.2.2.2.2 z
        rw [p1] at eq3
        omega
      · exact z
    obtain ⟨r1, r2⟩ := frac_eq (p := v.1.toInt) (q := v.2.toInt.toNat) hy (by omega) hxy (by have := hv.2.2.2.2.1; unfold gcd1 at this; rw [show v.2.toInt.toNat = v.2.toInt.natAbs by omega]; exact this) (by rw [show ((v.2.toInt.toNat : Nat) : Int) = v.2.toInt by omega]; exact eq3)
    exact ⟨r2, by omega⟩
  · have c0 : t.2.2.1.toInt ≠ 0 := fun z => by
      rw [z, Int.mul_zero, Int.mul_zero] at hC
      have := Int.mul_eq_zero.mp hC.symm
      omega
    have eq2 : 2 * (t.2.2.1.toInt * x) = (t.1.toInt - t.2.2.2.toInt) * y := by
      refine Int.eq_of_mul_eq_mul_left hg' ?_
      have k1 : (g : Int) * (2 * (t.2.2.1.toInt * x)) = 2 * t.2.2.1.toInt * (s * (t.1.toInt - t.2.2.2.toInt)) := by
        rw [hs]
        grind
      have k2 : (g : Int) * ((t.1.toInt - t.2.2.2.toInt) * y) = (t.1.toInt - t.2.2.2.toInt) * (s * (2 * t.2.2.1.toInt)) := by
        rw [hC]
        grind
      rw [k1, k2]
      grind
    have eq3 : t.2.2.1.toInt * x = e * y - t.2.2.2.toInt * y := by
      have : (t.1.toInt + t.2.2.2.toInt) * y = 2 * (e * y) := by rw [ht, Int.mul_assoc]
      rw [Int.add_mul] at this
      rw [Int.sub_mul] at eq2
      omega
    refine ⟨?_, by omega⟩
    have ee : e * e = 1 := by rcases he with rfl | rfl <;> decide
    unfold tOk at hT
    have z : t.2.2.1.toInt * (t.1.toInt * x + t.2.1.toInt * y - e * x) = 0 := by
      have k : t.2.2.1.toInt * (t.1.toInt * x + t.2.1.toInt * y - e * x) = t.1.toInt * (t.2.2.1.toInt * x) + (t.2.1.toInt * t.2.2.1.toInt) * y - e * (t.2.2.1.toInt * x) := by grind
      rw [k, eq3]
      have k1 : (t.1.toInt * t.2.2.2.toInt - t.2.1.toInt * t.2.2.1.toInt) * y = y := by rw [hT, Int.one_mul]
      have k2 : e * (t.1.toInt + t.2.2.2.toInt) * y = 2 * y := by
        rw [ht, show e * (2 * e) = 2 * (e * e) by grind, ee, Int.mul_one]
      have k3 : e * e * (y : Int) = y := by rw [ee, Int.one_mul]
      grind
    rcases Int.mul_eq_zero.mp z with w | w
    · exact absurd w c0
    · omega
theorem p_stC {F i : Nat} {t : Tb} {μ : Mm} (hF : 1000 ≤ F) (ht : tbC μ i = t) (hT : tOk t) (hb : tBd 0 13528 t) : ∃ c μ', fX6_stay F i 4 μ = some (c, μ') ∧ ag (fun c i _ => c = 5 ∧ i = 4) μ μ' ∧ ((c = 0 ∧ ∀ v, tV v → ¬ stay t v) ∨ (c = 1 ∧ tV (tgC μ' 4) ∧ stay t (tgC μ' 4) ∧ ∀ v, tV v → stay t v → v = tgC μ' 4) ∨ (c = 12016 ∧ (∀ v, tV v → stay t v) ∧ tgC μ' 4 = (1, 0))) := by
  obtain ⟨b1, b2, b3, b4⟩ := tBd_0 hb
  have ea : si (si μ 5 4 0 1) 5 4 1 0 = pt μ 4 (1, 0) := rfl
  have g5 : ag (fun c i _ => c = 5 ∧ i = 4) μ (pt μ 4 (1, 0)) := ag_pt (fun j => ⟨rfl, rfl⟩)
  have t' : tbC (pt μ 4 (1, 0)) i = t := by
    rw [← ht]
    unfold tbC
    rw [ag_n g5 (by omega), ag_n g5 (by omega), ag_n g5 (by omega), ag_n g5 (by omega)]
  have c0 : gi (pt μ 4 (1, 0)) 6 i 0 = t.1 := congrArg (fun t => t.1) t'
  have c2 : gi (pt μ 4 (1, 0)) 6 i 2 = t.2.2.1 := congrArg (fun t => t.2.2.1) t'
  have c3 : gi (pt μ 4 (1, 0)) 6 i 3 = t.2.2.2 := congrArg (fun t => t.2.2.2) t'
  unfold fX6_stay
  rw [ea, p_noC (by rw [t']; exact hT), bd2_s, t']
  by_cases nt : ntS t = true
  · rw [if_pos nt, if_neg n1_0]
    refine ⟨12016, _, rfl, g5, Or.inr (Or.inr ⟨rfl, fun v hv => ?_, tgC_pt⟩)⟩
    unfold ntS at nt
    simp at nt
    obtain ⟨d1, d2⟩ := tOk_d hT nt.1 nt.2
    unfold stay
    rw [nt.1, nt.2, ← d1]
    rcases d2 with d2 | d2
    · left
      rw [show t.1 = 1 from i_eq.mpr d2]
      constructor <;> grind
    · right
      rw [show t.1 = -1 from i_eq.mpr d2]
      constructor <;> grind
  rw [if_neg nt, if_pos rfl]
  unfold fX6_trace
  rw [bd2_s, c0, c3, c2]
  have tr : (t.1 + t.2.2.2).toInt = t.1.toInt + t.2.2.2.toInt := tz_add (by omega)
  have tab : ab (t.1 + t.2.2.2) = nI (t.1.toInt + t.2.2.2.toInt).natAbs := by rw [nn_ab (by omega), tr]
  have none_of : (∀ e : Int, (e = 1 ∨ e = -1) → e * (t.1.toInt + t.2.2.2.toInt) ≠ 2) → ∀ v, tV v → ¬ stay t v := fun h v hv st => by
    rcases (stay_i hb hv).mp st with s | s
    · exact h 1 (Or.inl rfl) (st_2 hT (by decide) hv s)
    · exact h (-1) (Or.inr rfl) (st_2 hT (by decide) hv s)
  by_cases w2 : (t.1.toInt + t.2.2.2.toInt).natAbs = 2
  · rw [tab, w2, if_pos (show nI 2 = 2 from rfl)]
    obtain ⟨e, he, hte⟩ : ∃ e : Int, (e = 1 ∨ e = -1) ∧ t.1.toInt + t.2.2.2.toInt = 2 * e := by
      rcases (show t.1.toInt + t.2.2.2.toInt = 2 ∨ t.1.toInt + t.2.2.2.toInt = -2 by omega) with z | z
      · exact ⟨1, Or.inl rfl, by omega⟩
      · exact ⟨-1, Or.inr rfl, by omega⟩
    have ee : e * e = 1 := by rcases he with rfl | rfl <;> decide
    by_cases cz : t.2.2.1 = 0
    · rw [if_pos cz]
      have cz' := i_eq0.mp cz
      have bz : t.2.1.toInt ≠ 0 := fun z => nt (by unfold ntS; simp [cz, i_eq0.mpr z])
      have ad : t.1.toInt * t.2.2.2.toInt = 1 := by
        unfold tOk at hT
        rw [cz', Int.mul_zero, Int.sub_zero] at hT
        exact hT
      have a1 : t.1.toInt = e ∧ t.2.2.2.toInt = e := by
        have hn : t.1.toInt.natAbs = 1 := by
          have := congrArg Int.natAbs ad
          rw [Int.natAbs_mul] at this
          exact Nat.eq_one_of_mul_eq_one_right this
        rcases (show t.1.toInt = 1 ∨ t.1.toInt = -1 by omega) with z | z <;> rcases he with rfl | rfl <;> rw [z] at ad <;> omega
      have un : ∀ v, tV v → stay t v → v = (1, 0) := fun v hv st => by
        obtain ⟨e', e1, s⟩ : ∃ e' : Int, e' * e' = 1 ∧ stI t e' v.1.toInt v.2.toInt := by
          rcases (stay_i hb hv).mp st with s | s
          · exact ⟨1, by decide, s⟩
          · exact ⟨-1, by decide, s⟩
        have e2 := st_2 hT e1 hv s
        rw [hte] at e2
        have e3 : e' = e := by rcases he with rfl | rfl <;> omega
        have s1 := s.1
        rw [a1.1, e3] at s1
        have q0 : t.2.1.toInt * v.2.toInt = 0 := by omega
        rcases Int.mul_eq_zero.mp q0 with z | z
        · exact absurd z bz
        · exact Prod.ext (i_eq.mpr (hv.2.2.2.2.2 z)) (i_eq.mpr z)
      refine ⟨1, _, rfl, g5, Or.inr (Or.inl ⟨rfl, by rw [tgC_pt]; exact tV10, ?_, fun v hv st => by rw [tgC_pt]; exact un v hv st⟩)⟩
      rw [tgC_pt]
      refine (stay_i hb tV10).mpr ?_
      have s : stI t e (1 : Int32).toInt (0 : Int32).toInt := by
        unfold stI
        rw [z0, show (1 : Int32).toInt = 1 from rfl, a1.1, cz']
        omega
      rcases he with rfl | rfl
      · exact Or.inl s
      · exact Or.inr s
    have cz' : t.2.2.1.toInt ≠ 0 := fun z => cz (i_eq0.mpr z)
    -- the sign, the fraction
    obtain ⟨s, s0, hs1, hs0, hsc, hif⟩ : ∃ (s : Int) (s0 : Int32), (s = 1 ∨ s = -1) ∧ s0.toInt = s * (t.1.toInt - t.2.2.2.toInt) ∧ s * t.2.2.1.toInt = (t.2.2.1.toInt.natAbs : Int) ∧ (if t.2.2.1 ≤ 0 then fX6_stay_L71 F i 4 (t.2.2.2 - t.1) (pt μ 4 (1, 0)) else fX6_stay_L71 F i 4 (t.1 - t.2.2.2) (pt μ 4 (1, 0))) = fX6_stay_L71 F i 4 s0 (pt μ 4 (1, 0)) := by
      by_cases z : t.2.2.1 ≤ 0
      · have z' := i_le0.mp z
        exact ⟨-1, t.2.2.2 - t.1, Or.inr rfl, by rw [tz_sub (by omega)]; omega, by omega, by rw [if_pos z]⟩
      · have z' : 0 < t.2.2.1.toInt := by
          rw [i_le0] at z
          omega
        exact ⟨1, t.1 - t.2.2.2, Or.inl rfl, by rw [tz_sub (by omega)]; omega, by omega, by rw [if_neg z]⟩
    rw [if_neg cz, hif]
    unfold fX6_stay_L71
    have hs0b : s0.toInt.natAbs ≤ 27056 := by
      rw [hs0]
      rcases hs1 with rfl | rfl <;> omega
    have c2a : ab (2 * t.2.2.1) = nI (2 * t.2.2.1.toInt.natAbs) := by
      have e1 : (2 * t.2.2.1).toInt = 2 * t.2.2.1.toInt := by
        rw [tz_mul (by rw [show (2 : Int32).toInt = 2 from rfl]; omega)]
        rfl
      rw [nn_ab (by omega), e1, Int.natAbs_mul]
      rfl
    rw [c2, c2a, nn_ab (by omega), p_greC hF (by omega) (by omega), bd2_s]
    have gpos : 0 < Nat.gcd s0.toInt.natAbs (2 * t.2.2.1.toInt.natAbs) := Nat.gcd_pos_of_pos_right _ (by omega)
    have gle : Nat.gcd s0.toInt.natAbs (2 * t.2.2.1.toInt.natAbs) ≤ 2 * t.2.2.1.toInt.natAbs := Nat.gcd_le_right _ (by omega)
    obtain ⟨x, hx⟩ : ((Nat.gcd s0.toInt.natAbs (2 * t.2.2.1.toInt.natAbs) : Nat) : Int) ∣ s0.toInt := Int.natAbs_dvd_natAbs.mp (show Nat.gcd s0.toInt.natAbs (2 * t.2.2.1.toInt.natAbs) ∣ s0.toInt.natAbs from Nat.gcd_dvd_left _ _)
    obtain ⟨y, hy⟩ : Nat.gcd s0.toInt.natAbs (2 * t.2.2.1.toInt.natAbs) ∣ 2 * t.2.2.1.toInt.natAbs := Nat.gcd_dvd_right _ _
    have hg1 : Nat.gcd s0.toInt.natAbs (2 * t.2.2.1.toInt.natAbs) = Nat.gcd s0.toInt.natAbs (2 * t.2.2.1.toInt.natAbs) := rfl
    generalize hG : Nat.gcd s0.toInt.natAbs (2 * t.2.2.1.toInt.natAbs) = g at *
    have ypos : 0 < y := by
      rcases Nat.eq_zero_or_pos y with z | z
      · rw [z, Nat.mul_zero] at hy
        omega
      · exact z
    have hxy : Nat.gcd x.natAbs y = 1 := by
      have e1 : s0.toInt.natAbs = g * x.natAbs := by
        rw [hx, Int.natAbs_mul]
        rfl
      rw [e1, hy, Nat.gcd_mul_left] at hG
      exact Nat.eq_of_mul_eq_mul_left gpos (by rw [hG, Nat.mul_one])
    obtain ⟨f1, f2⟩ := stay_frac (x := x) (y := y) (g := g) hT hte he hs1 (by rw [← hs0]; exact hx) (by rw [show s * (2 * t.2.2.1.toInt) = 2 * (s * t.2.2.1.toInt) by grind, hsc, show (2 : Int) * (t.2.2.1.toInt.natAbs : Int) = ((2 * t.2.2.1.toInt.natAbs : Nat) : Int) by omega, hy, Int.natCast_mul]) gpos ypos hxy
    have yle : y ≤ 2 * t.2.2.1.toInt.natAbs := by
      rw [hy]
      exact Nat.le_mul_of_pos_left _ gpos
    have xle : x.natAbs ≤ 27056 := by
      have e1 : s0.toInt.natAbs = g * x.natAbs := by
        rw [hx, Int.natAbs_mul]
        rfl
      have := Nat.le_mul_of_pos_left x.natAbs gpos
      omega
    have xd : (s0 / nI g).toInt = x := by
      rw [Int32.toInt_div, nI_toInt (by omega), hx, Int.mul_tdiv_cancel_left _ (by omega)]
      exact bm_id (by omega)
    have yd : nI (2 * t.2.2.1.toInt.natAbs) / nI g = nI y := by
      rw [nn_div (by omega) (by omega), hy, Nat.mul_div_cancel_left _ gpos]
    have g0 : ¬ nI g = 0 := by
      rw [show (0 : Int32) = nI 0 from rfl, nn_inj (by omega) (by omega)]
      omega
    have ep : si (si (pt μ 4 (1, 0)) 5 4 0 (s0 / nI g)) 5 4 1 (nI y) = pt μ 4 (s0 / nI g, nI y) := pt_pt (μ := μ) (i := 4) (t := (1, 0)) (u := (s0 / nI g, nI y))
    rw [if_neg g0, if_neg g0, if_neg g0, yd, ep]
    have gp : ag (fun c i _ => c = 5 ∧ i = 4) μ (pt μ 4 (s0 / nI g, nI y)) := ag_pt (fun j => ⟨rfl, rfl⟩)
    have tp : tgC (pt μ 4 (s0 / nI g, nI y)) 4 = (s0 / nI g, nI y) := tgC_pt
    rw [show gi (pt μ 4 (s0 / nI g, nI y)) 5 4 0 = s0 / nI g from congrArg Prod.fst tp]
    have isT : ∀ (z : Int32) (μ : Mm), fX5_isTangle F z μ = some (if -99 ≤ z.toInt ∧ z.toInt ≤ 99 then 1 else 0, μ) := fun z μ => by
      unfold fX5_isTangle
      by_cases k1 : z.toInt < -99
      · rw [if_pos (show z < -99 from i_lt.mpr k1), if_neg (by omega)]
      · rw [if_neg (show ¬ z < -99 from fun h => k1 (i_lt.mp h))]
        by_cases k2 : 99 < z.toInt
        · rw [if_pos (show 99 < z from i_lt.mpr k2), if_neg (by omega)]
        · rw [if_neg (show ¬ 99 < z from fun h => k2 (i_lt.mp h)), if_pos (by omega)]
    have ny : (nI y).toInt = y := nI_toInt (by omega)
    have nos : ¬ (-99 ≤ x ∧ x ≤ 99 ∧ (y : Int) ≤ 99) → ∀ v, tV v → ¬ stay t v := fun h v hv st => by
      obtain ⟨r1, r2⟩ := f1 v hv ((stay_i hb hv).mp st)
      obtain ⟨h1, h2, h3, h4, _⟩ := hv
      omega
    rw [isT, bd2_s, xd]
    by_cases kx : -99 ≤ x ∧ x ≤ 99
    · rw [if_pos kx, if_neg n1_0, show gi (pt μ 4 (s0 / nI g, nI y)) 5 4 1 = nI y from congrArg Prod.snd tp, isT, bd2_s, ny]
      by_cases ky : -99 ≤ (y : Int) ∧ (y : Int) ≤ 99
      · rw [if_pos ky, if_neg n1_0]
        have tw : tV (s0 / nI g, nI y) := by
          refine ⟨by show -99 ≤ (s0 / nI g).toInt; omega, by show (s0 / nI g).toInt ≤ 99; omega, by show 0 ≤ (nI y).toInt; omega, by show (nI y).toInt ≤ 99; omega, ?_, fun z => ?_⟩
          · unfold gcd1
            show Nat.gcd (s0 / nI g).toInt.natAbs (nI y).toInt.natAbs = 1
            rw [xd, ny]
            exact hxy
          · have : (nI y).toInt = 0 := z
            omega
        have sI : stI t e (s0 / nI g).toInt (nI y).toInt := by
          rw [xd, ny]
          exact f2
        refine ⟨1, _, rfl, gp, Or.inr (Or.inl ⟨rfl, by rw [tp]; exact tw, ?_, fun v hv st => ?_⟩)⟩
        · rw [tp]
          refine (stay_i hb tw).mpr ?_
          rcases he with rfl | rfl
          · exact Or.inl sI
          · exact Or.inr sI
        · rw [tp]
          obtain ⟨r1, r2⟩ := f1 v hv ((stay_i hb hv).mp st)
          exact Prod.ext (i_eq.mpr (r1.trans xd.symm)) (i_eq.mpr (r2.trans ny.symm))
      · rw [if_neg ky, if_pos rfl]
        exact ⟨0, _, rfl, gp, Or.inl ⟨rfl, nos (by omega)⟩⟩
    · rw [if_neg kx, if_pos rfl]
      exact ⟨0, _, rfl, gp, Or.inl ⟨rfl, nos (by omega)⟩⟩
  · rw [tab, if_neg (show ¬ nI (t.1.toInt + t.2.2.2.toInt).natAbs = 2 by rw [show (2 : Int32) = nI 2 from rfl, nn_inj (by omega) (by decide)]; exact w2)]
    exact ⟨0, _, rfl, g5, Or.inl ⟨rfl, none_of (fun e he => by rcases he with rfl | rfl <;> omega)⟩⟩
theorem o_stays {F : Nat} (hF : 1000 ≤ F) (a b : Int32) : st2 Inv (fX11_stays F a b) (fX12_stays F a b) := fun u s μ ν q => by
  obtain ⟨T, S, X, e, q1, q2, q3⟩ := id q
  obtain ⟨a1, a2, a3, a4, a5, a6, a7, a8, _⟩ := id q1
  unfold fX11_stays fX12_stays
  rcases p_fig (F := F) q1 a with ⟨f, hf, rfl, hc, hr⟩ | ⟨hc, hr⟩
  · rw [hc, hr, bd2_s, bd2_s, oel_s, if_neg n1_0]
    by_cases w0 : b.toInt < 0
    · rw [if_pos (i_lt0.mpr w0), p_in0 (x := 0) (y := 2) rfl rfl (by omega), bd2_s, if_pos rfl]
      exact ⟨_, μ, ν, rfl, rfl, q⟩
    rw [if_neg (c := b < 0) (fun z => w0 (i_lt0.mp z))]
    by_cases w1 : b.toInt ≤ 2
    · obtain ⟨ok, bd⟩ := tF_b a3 hf
      obtain ⟨c, μ', r1, r2, r3⟩ := p_stC (F := F) (i := 9 * T + 4 + f) hF (tbC_f a7 hf) ok bd
      rw [if_pos (show b ≤ 2 from i_le.mpr w1), p_in1 (x := 0) (y := 2) rfl rfl (by omega), bd2_s, if_neg n1_0, p_tof hF a2 a3 hf a6 a8, bd1_s, r1, bd2_s]
      have iv : Inv u s μ' (ptb ν (tF X f)) := Inv_scr (ag_of r2 (fun c i j w => by unfold SC; omega)) ag_ptb q
      have hR := tbR_ptb (ν := ν) (t := tF X f)
      rcases r3 with ⟨rfl, h⟩ | ⟨rfl, h1, h2, h3⟩ | ⟨rfl, h1, h2⟩
      · rw [p_stN hF (by rw [hR]; exact h)]
        unfold tellS
        by_cases b0 : b = 0
        · rw [if_pos b0, if_pos b0]
          exact ⟨_, _, _, rfl, rfl, iv⟩
        · rw [if_neg b0, if_neg b0, if_pos rfl, if_neg (by decide)]
          exact ⟨_, _, _, rfl, rfl, iv⟩
      · rw [p_st1 (w := tgC μ' 4) hF h1 (by rw [hR]; exact h2) (by rw [hR]; exact h3)]
        unfold tellS
        rw [if_pos (enc_0le h1), p_over h1, p_under h1, bd2_s, bd2_s, if_neg n1_0]
        by_cases b0 : b = 0
        · rw [if_pos b0, if_pos b0]
          exact ⟨_, _, _, rfl, rfl, iv⟩
        rw [if_neg b0, if_neg b0]
        by_cases b1 : b = 1
        · rw [if_pos b1, if_pos b1]
          exact ⟨_, _, _, rfl, rfl, iv⟩
        · rw [if_neg b1, if_neg b1]
          exact ⟨_, _, _, rfl, rfl, iv⟩
      · rw [p_stA hF (by rw [hR]; exact h1)]
        unfold tellS
        rw [if_pos (enc_0le tV10), p_over tV10, p_under tV10, bd2_s, bd2_s, if_neg (show ¬ (12016 : Int32) = 0 by decide), show gi μ' 5 4 0 = 1 from congrArg Prod.fst h2, show gi μ' 5 4 1 = 0 from congrArg Prod.snd h2]
        by_cases b0 : b = 0
        · rw [if_pos b0, if_pos b0]
          exact ⟨_, _, _, rfl, rfl, iv⟩
        rw [if_neg b0, if_neg b0]
        by_cases b1 : b = 1
        · rw [if_pos b1, if_pos b1]
          exact ⟨_, _, _, rfl, rfl, iv⟩
        · rw [if_neg b1, if_neg b1]
          exact ⟨_, _, _, rfl, rfl, iv⟩
    · rw [if_neg (show ¬ b ≤ 2 from fun z => w1 (i_le.mp z)), p_in0 (x := 0) (y := 2) rfl rfl (by omega), bd2_s, if_pos rfl]
      exact ⟨_, μ, ν, rfl, rfl, q⟩
  · rw [hc, hr, bd2_s, bd2_s, oel_n, if_pos rfl]
    exact ⟨_, μ, ν, rfl, rfl, q⟩
