/-! PURE: what is told of tables -/
def sgS (t : Tb) : Int32 := if 0 < t.1 then 1 else if t.1 = 0 then (if t.2.1 ≤ 0 then -1 else 1) else -1
def sgT (t : Tb) : Tb := (sgS t * t.1, sgS t * t.2.1, sgS t * t.2.2.1, sgS t * t.2.2.2)
theorem sg_pm (t : Tb) : sgS t = 1 ∨ sgS t = -1 := by
  unfold sgS
  split
  · exact Or.inl rfl
  · split
    · split
      · exact Or.inr rfl
      · exact Or.inl rfl
    · exact Or.inr rfl
theorem p_sign {F i : Nat} {μ : Mm} : fX6_sign F i μ = some (sgS (tbC μ i), μ) := by
  unfold fX6_sign fX6_sign_L21 sgS tbC
  dsimp only
  split
  · rfl
  · split
    · split <;> rfl
    · rfl
theorem p_signs {F : Nat} {ν : Mm} (h : ¬ ((tbR ν).1 = 0 ∧ (tbR ν).2.1 = 0)) : fX12_signsTable F ν = some (ptb ν (sgT (tbR ν))) := by
  have L0 : fX12_signsTable_L34 F 0 ν = some ν := by
    unfold fX12_signsTable_L34
    rw [if_pos rfl]
  have L1 : fX12_signsTable_L34 F 1 ν = some (ptb ν (-(tbR ν).1, -(tbR ν).2.1, -(tbR ν).2.2.1, -(tbR ν).2.2.2)) := by
    unfold fX12_signsTable_L34
    rw [if_neg n1_0]
    have k : ∀ (j j' : Nat) (ν : Mm) (v : Int32), j' ≠ j → gi (si ν 12 0 j v) 12 0 j' = gi ν 12 0 j' := fun j j' ν v w => gi_ne (by omega)
    rw [k 59 60 _ _ (by decide), k 58 60 _ _ (by decide), k 57 60 _ _ (by decide), k 58 59 _ _ (by decide), k 57 59 _ _ (by decide), k 57 58 _ _ (by decide)]
    rfl
  have one : sgS (tbR ν) = 1 → some ν = some (ptb ν (sgT (tbR ν))) := fun e => by
    have : sgT (tbR ν) = tbR ν := by
      unfold sgT
      rw [e]
      refine tb_ext ?_ ?_ ?_ ?_ <;> dsimp only <;> grind
    rw [this, ptb_same]
  have two : sgS (tbR ν) = -1 → some (ptb ν (-(tbR ν).1, -(tbR ν).2.1, -(tbR ν).2.2.1, -(tbR ν).2.2.2)) = some (ptb ν (sgT (tbR ν))) := fun e => by
    have : sgT (tbR ν) = (-(tbR ν).1, -(tbR ν).2.1, -(tbR ν).2.2.1, -(tbR ν).2.2.2) := by
      unfold sgT
      rw [e]
      refine tb_ext ?_ ?_ ?_ ?_ <;> dsimp only <;> grind
    rw [this]
  unfold fX12_signsTable
  rw [L0, L1, show gi ν 12 0 57 = (tbR ν).1 from rfl, show gi ν 12 0 58 = (tbR ν).2.1 from rfl]
  by_cases a0 : (tbR ν).1 = 0
  · have na : ¬ 0 < (tbR ν).1 := by
      rw [a0]
      decide
    have hb : (tbR ν).2.1.toInt ≠ 0 := fun z => h ⟨a0, i_eq0.mpr z⟩
    rw [if_pos a0]
    by_cases b0 : 0 ≤ (tbR ν).2.1
    · rw [if_pos b0]
      exact one (by unfold sgS; rw [if_neg na, if_pos a0, if_neg (fun z => by have := i_le0.mp z; have := i_0le.mp b0; omega)])
    · rw [if_neg b0]
      exact two (by unfold sgS; rw [if_neg na, if_pos a0, if_pos (i_le0.mpr (by rw [i_0le] at b0; omega))])
  · have ha : (tbR ν).1.toInt ≠ 0 := fun z => a0 (i_eq0.mpr z)
    rw [if_neg a0]
    by_cases b0 : 0 ≤ (tbR ν).1
    · rw [if_pos b0]
      exact one (by unfold sgS; rw [if_pos (i_0lt.mpr (by have := i_0le.mp b0; omega))])
    · rw [if_neg b0]
      exact two (by unfold sgS; rw [if_neg (fun z => by have := i_0lt.mp z; rw [i_0le] at b0; omega), if_neg a0])
theorem tbC_f {T f : Nat} {X : Xt} {μ : Mm} (hC : CT μ T X) (hf : f < xm X) : tbC μ (9 * T + 4 + f) = tF X f := (hC.2.2.2.1 f hf).2.2
theorem o_figure {F : Nat} (hF : 1000 ≤ F) (a b : Int32) : st2 Inv (fX11_figure F a b) (fX12_figure F a b) := fun u s μ ν q => by
  obtain ⟨T, S, X, e, q1, q2, q3⟩ := id q
  obtain ⟨a1, a2, a3, a4, a5, a6, a7, a8, _⟩ := id q1
  unfold fX11_figure fX12_figure
  rcases p_fig (F := F) q1 a with ⟨f, hf, rfl, hc, hr⟩ | ⟨hc, hr⟩
  · have tb := tbC_f a7 hf
    have nz := tOk_z (tF_b a3 hf).1
    rw [hc, hr, bd2_s, bd2_s, oel_s, if_neg n1_0, p_tof hF a2 a3 hf a6 a8, bd1_s, p_signs (by rw [tbR_ptb]; exact nz), bd1_s, tbR_ptb, ptb_ptb, p_sign, bd2_s, tb]
    have iv : Inv u s μ (ptb ν (sgT (tF X f))) := Inv_scr ag_rfl ag_ptb q
    have hR := tbR_ptb (ν := ν) (t := sgT (tF X f))
    have g0 : gi (ptb ν (sgT (tF X f))) 12 0 57 = sgS (tF X f) * (tF X f).1 := congrArg (fun t => t.1) hR
    have g1 : gi (ptb ν (sgT (tF X f))) 12 0 58 = sgS (tF X f) * (tF X f).2.1 := congrArg (fun t => t.2.1) hR
    have g2 : gi (ptb ν (sgT (tF X f))) 12 0 59 = sgS (tF X f) * (tF X f).2.2.1 := congrArg (fun t => t.2.2.1) hR
    have g3 : gi (ptb ν (sgT (tF X f))) 12 0 60 = sgS (tF X f) * (tF X f).2.2.2 := congrArg (fun t => t.2.2.2) hR
    have c0 : gi μ 6 (9 * T + 4 + f) 0 = (tF X f).1 := congrArg (fun t => t.1) tb
    have c1 : gi μ 6 (9 * T + 4 + f) 1 = (tF X f).2.1 := congrArg (fun t => t.2.1) tb
    have c2 : gi μ 6 (9 * T + 4 + f) 2 = (tF X f).2.2.1 := congrArg (fun t => t.2.2.1) tb
    have c3 : gi μ 6 (9 * T + 4 + f) 3 = (tF X f).2.2.2 := congrArg (fun t => t.2.2.2) tb
    rw [g0, g1, g2, g3, (a7.2.2.2.1 f hf).1, p_movesOf ((ptb_gi (by omega)).trans a6) a2 a3 (RT_ptb a8) hf, bd2_s]
    unfold fX6_part
    rw [c0, c1, c2, c3]
    by_cases w0 : b.toInt < 0
    · rw [if_pos (i_lt0.mpr w0), if_neg (show ¬ b = 0 by rw [i_eq0]; omega), if_neg (show ¬ b = 1 by rw [i_eq]; show ¬ b.toInt = 1; omega), if_neg (show ¬ b = 2 by rw [i_eq]; show ¬ b.toInt = 2; omega), if_neg (show ¬ b = 3 by rw [i_eq]; show ¬ b.toInt = 3; omega), if_neg (show ¬ b = 4 by rw [i_eq]; show ¬ b.toInt = 4; omega)]
      exact ⟨_, μ, _, rfl, rfl, iv⟩
    rw [if_neg (fun z => w0 (i_lt0.mp z))]
    by_cases w4 : b.toInt ≤ 4
    · rw [if_pos (show b ≤ 4 from i_le.mpr w4)]
      by_cases b4 : b = 4
      · rw [if_pos b4, b4, if_neg (by decide), if_neg (by decide), if_neg (by decide), if_neg (by decide), if_pos rfl]
        exact ⟨_, μ, _, rfl, rfl, iv⟩
      rw [if_neg (c := b = 4) b4]
      by_cases b0 : b = 0
      · rw [if_pos b0, if_pos b0, bd2_s]
        exact ⟨_, μ, _, rfl, rfl, iv⟩
      rw [if_neg b0, if_neg b0]
      by_cases b1 : b = 1
      · rw [if_pos b1, if_pos b1, bd2_s]
        exact ⟨_, μ, _, rfl, rfl, iv⟩
      rw [if_neg b1, if_neg b1]
      by_cases b2 : b = 2
      · rw [if_pos b2, if_pos b2, bd2_s]
        exact ⟨_, μ, _, rfl, rfl, iv⟩
      have b3 : b = 3 := i_eq.mpr (by
        have n0 : b.toInt ≠ 0 := fun z => b0 (i_eq0.mpr z)
        have n1 : b.toInt ≠ 1 := fun z => b1 (i_eq.mpr z)
        have n2 : b.toInt ≠ 2 := fun z => b2 (i_eq.mpr z)
        have n4 : b.toInt ≠ 4 := fun z => b4 (i_eq.mpr z)
        show b.toInt = 3
        omega)
      rw [if_neg b2, if_neg b2, if_pos b3, bd2_s]
      exact ⟨_, μ, _, rfl, rfl, iv⟩
    · rw [if_neg (show ¬ b ≤ 4 from fun z => w4 (i_le.mp z)), if_neg (show ¬ b = 0 by rw [i_eq0]; omega), if_neg (show ¬ b = 1 by rw [i_eq]; show ¬ b.toInt = 1; omega), if_neg (show ¬ b = 2 by rw [i_eq]; show ¬ b.toInt = 2; omega), if_neg (show ¬ b = 3 by rw [i_eq]; show ¬ b.toInt = 3; omega), if_neg (show ¬ b = 4 by rw [i_eq]; show ¬ b.toInt = 4; omega)]
      exact ⟨_, μ, _, rfl, rfl, iv⟩
  · rw [hc, hr, bd2_s, bd2_s, oel_n, if_pos rfl]
    exact ⟨_, μ, ν, rfl, rfl, q⟩
theorem p_become {F k x y : Nat} {μ : Mm} (hx : x ≠ k) (hy : y ≠ k) : ∃ μ', fX6_become F k x y μ = some μ' ∧ ag (fun c i _ => c = 6 ∧ i = k) μ μ' ∧ tbC μ' k = mT (tbC μ y) (tbC μ x) := by
  refine ⟨_, rfl, ag_tr (ag_tr (ag_tr (ag_si ⟨rfl, rfl⟩) (ag_si ⟨rfl, rfl⟩)) (ag_si ⟨rfl, rfl⟩)) (ag_si ⟨rfl, rfl⟩), ?_⟩
  unfold tbC mT
  dsimp only
  refine tb_ext ?_ ?_ ?_ ?_ <;> dsimp only
  · rw [gi_ne (by omega), gi_ne (by omega), gi_ne (by omega), gi_eq]
  · rw [gi_ne (by omega), gi_ne (by omega), gi_eq]
  · rw [gi_ne (by omega), gi_eq]
  · rw [gi_eq]
theorem tbC_ag {μ μ' : Mm} {k r : Nat} (h : ag (fun c i _ => c = 6 ∧ i = k) μ μ') (hr : r ≠ k) : tbC μ' r = tbC μ r := by
  unfold tbC
  rw [ag_n h (by omega), ag_n h (by omega), ag_n h (by omega), ag_n h (by omega)]
theorem pm_cmp {x y p r : Int32} (hx : x = 1 ∨ x = -1) (hy : y = 1 ∨ y = -1) : (p = (x * y) * r) ↔ (x * p = y * r) := by
  rcases hx with rfl | rfl <;> rcases hy with rfl | rfl <;> constructor <;> intro h <;> grind
theorem o_mind {F : Nat} (hF : 1000 ≤ F) (a b : Int32) : st2 Inv (fX11_mind F a b) (fX12_mind F a b) := fun u s μ ν q => by
  obtain ⟨T, S, X, e, q1, q2, q3⟩ := id q
  obtain ⟨a1, a2, a3, a4, a5, a6, a7, a8, _⟩ := id q1
  have hm5 := a3.2.1
  unfold fX11_mind fX12_mind
  rcases p_fig (F := F) q1 a with ⟨f, hf, rfl, hc, hr⟩ | ⟨hc, hr⟩
  · rw [hc, hr, bd2_s, bd2_s, oel_s, if_neg n1_0]
    rcases p_fig (F := F) q1 b with ⟨g, hg, rfl, gc, gr⟩ | ⟨gc, gr⟩
    · rw [gc, gr, bd2_s, bd2_s, oel_s, if_neg n1_0]
      obtain ⟨μ1, b1, b2, b3⟩ := p_become (F := F) (k := 18) (x := 9 * T + 4 + f) (y := 9 * T + 4 + g) (μ := μ) (by omega) (by omega)
      obtain ⟨μ2, d1, d2, d3⟩ := p_become (F := F) (k := 19) (x := 9 * T + 4 + g) (y := 9 * T + 4 + f) (μ := μ1) (by omega) (by omega)
      rw [tbC_f a7 hf, tbC_f a7 hg] at b3
      rw [tbC_ag b2 (by omega), tbC_ag b2 (by omega), tbC_f a7 hf, tbC_f a7 hg] at d3
      have b4 : tbC μ2 18 = mT (tF X g) (tF X f) := (tbC_ag d2 (by omega)).trans b3
      have nzA := tOk_z (tFF_ok a3 hf hg).1
      have nzB := tOk_z (tFF_ok a3 hg hf).1
      have S' : ∀ t, gi (ptb ν t) 12 0 18 = nI S := fun t => (ptb_gi (by omega)).trans a6
      have R' : ∀ t, RT (ptb ν t) S X := fun t => RT_ptb a8
      rw [b1, bd1_s, d1, bd1_s]
      rw [p_tof hF a2 a3 hf a6 a8, bd1_s, p_ton hF a2 a3 hg (S' _) (R' _), bd1_s, tbR_ptb, ptb_ptb, p_signs (by rw [tbR_ptb]; exact nzA), bd1_s, tbR_ptb, ptb_ptb, p_tof hF a2 a3 hg (S' _) (R' _), bd1_s, ptb_ptb, p_ton hF a2 a3 hf (S' _) (R' _), bd1_s, tbR_ptb, ptb_ptb, p_signs (by rw [tbR_ptb]; exact nzB), bd1_s, tbR_ptb, ptb_ptb]
      have iv : ∀ r : Int32, ∃ r' μ' ν', some (r, μ2) = some (r', μ') ∧ some (r, ptb ν (sgT (mT (tF X f) (tF X g)))) = some (r', ν') ∧ Inv u s μ' ν' := fun r => ⟨r, μ2, _, rfl, rfl, Inv_scr (ag_tr (ag_of b2 (fun c i j w => by unfold SC; omega)) (ag_of d2 (fun c i j w => by unfold SC; omega))) ag_ptb q⟩
      generalize mT (tF X g) (tF X f) = A at *
      generalize mT (tF X f) (tF X g) = B at *
      have hA := tbR_ptb (ν := ν) (t := sgT A)
      have hB := tbR_ptb (ν := ν) (t := sgT B)
      rw [show gi (ptb ν (sgT A)) 12 0 57 = sgS A * A.1 from congrArg (fun t => t.1) hA, show gi (ptb ν (sgT A)) 12 0 58 = sgS A * A.2.1 from congrArg (fun t => t.2.1) hA, show gi (ptb ν (sgT A)) 12 0 59 = sgS A * A.2.2.1 from congrArg (fun t => t.2.2.1) hA, show gi (ptb ν (sgT A)) 12 0 60 = sgS A * A.2.2.2 from congrArg (fun t => t.2.2.2) hA]
      rw [show gi (ptb ν (sgT B)) 12 0 57 = sgS B * B.1 from congrArg (fun t => t.1) hB, show gi (ptb ν (sgT B)) 12 0 58 = sgS B * B.2.1 from congrArg (fun t => t.2.1) hB, show gi (ptb ν (sgT B)) 12 0 59 = sgS B * B.2.2.1 from congrArg (fun t => t.2.2.1) hB, show gi (ptb ν (sgT B)) 12 0 60 = sgS B * B.2.2.2 from congrArg (fun t => t.2.2.2) hB]
      unfold fX6_isAsFractions
      rw [p_sign, bd2_s, p_sign, bd2_s, b4, d3]
      rw [show gi μ2 6 18 0 = A.1 from congrArg (fun t => t.1) b4, show gi μ2 6 18 1 = A.2.1 from congrArg (fun t => t.2.1) b4, show gi μ2 6 18 2 = A.2.2.1 from congrArg (fun t => t.2.2.1) b4, show gi μ2 6 18 3 = A.2.2.2 from congrArg (fun t => t.2.2.2) b4]
      rw [show gi μ2 6 19 0 = B.1 from congrArg (fun t => t.1) d3, show gi μ2 6 19 1 = B.2.1 from congrArg (fun t => t.2.1) d3, show gi μ2 6 19 2 = B.2.2.1 from congrArg (fun t => t.2.2.1) d3, show gi μ2 6 19 3 = B.2.2.2 from congrArg (fun t => t.2.2.2) d3]
      have sA := sg_pm A
      have sB := sg_pm B
      by_cases w0 : A.1 = (sgS A * sgS B) * B.1
      · rw [if_pos w0, if_pos ((pm_cmp sA sB).mp w0)]
        by_cases w1 : A.2.1 = (sgS A * sgS B) * B.2.1
        · rw [if_pos w1, if_pos ((pm_cmp sA sB).mp w1)]
          by_cases w2 : A.2.2.1 = (sgS A * sgS B) * B.2.2.1
          · rw [if_pos w2, if_pos ((pm_cmp sA sB).mp w2)]
            by_cases w3 : A.2.2.2 = (sgS A * sgS B) * B.2.2.2
            · rw [if_pos w3, if_pos ((pm_cmp sA sB).mp w3), bd2_s, if_neg n1_0]
              exact iv _
            · rw [if_neg w3, if_neg (fun z => w3 ((pm_cmp sA sB).mpr z)), bd2_s, if_pos rfl]
              exact iv _
          · rw [if_neg w2, if_neg (fun z => w2 ((pm_cmp sA sB).mpr z)), bd2_s, if_pos rfl]
            exact iv _
        · rw [if_neg w1, if_neg (fun z => w1 ((pm_cmp sA sB).mpr z)), bd2_s, if_pos rfl]
          exact iv _
      · rw [if_neg w0, if_neg (fun z => w0 ((pm_cmp sA sB).mpr z)), bd2_s, if_pos rfl]
        exact iv _
    · rw [gc, gr, bd2_s, bd2_s, oel_n, if_pos rfl]
      exact ⟨_, μ, ν, rfl, rfl, q⟩
  · rw [hc, hr, bd2_s, bd2_s, oel_n, if_pos rfl]
    rcases p_fig (F := F) q1 b with ⟨g, hg, rfl, gc, gr⟩ | ⟨gc, gr⟩
    · rw [gc, bd2_s, oel_s]
      exact ⟨_, μ, ν, rfl, rfl, q⟩
    · rw [gc, bd2_s, oel_n]
      exact ⟨_, μ, ν, rfl, rfl, q⟩
/-- is a table as if nothing were done -/
def ntS (t : Tb) : Bool := t.2.1 == 0 && t.2.2.1 == 0
theorem p_noC {F i : Nat} {μ : Mm} (h : tOk (tbC μ i)) : fX6_isNothing F i μ = some (if ntS (tbC μ i) = true then 1 else 0, μ) := by
  unfold fX6_isNothing ntS
  rw [show gi μ 6 i 0 = (tbC μ i).1 from rfl, show gi μ 6 i 1 = (tbC μ i).2.1 from rfl, show gi μ 6 i 2 = (tbC μ i).2.2.1 from rfl, show gi μ 6 i 3 = (tbC μ i).2.2.2 from rfl]
  generalize tbC μ i = t at *
  by_cases b0 : t.2.1 = 0
  · rw [if_pos b0]
    by_cases c0 : t.2.2.1 = 0
    · rw [if_pos c0, if_pos (tOk_d h b0 c0).1, if_pos (by simp [b0, c0])]
    · rw [if_neg c0, if_neg (by simp [c0])]
  · rw [if_neg b0, if_neg (by simp [b0])]
theorem p_noR {F : Nat} {ν : Mm} : fX12_isNoTable F ν = some (if ntS (tbR ν) = true then 1 else 0, ν) := by
  unfold fX12_isNoTable ntS
  rw [show gi ν 12 0 58 = (tbR ν).2.1 from rfl, show gi ν 12 0 59 = (tbR ν).2.2.1 from rfl]
  generalize tbR ν = t at *
  by_cases b0 : t.2.1 = 0
  · rw [if_pos b0]
    by_cases c0 : t.2.2.1 = 0
    · rw [if_pos c0, if_pos (by simp [b0, c0])]
    · rw [if_neg c0, if_neg (by simp [c0])]
  · rw [if_neg b0, if_neg (by simp [b0])]
theorem o_order {F : Nat} (hF : 1000 ≤ F) (a : Int32) : st2 Inv (fX11_order F a) (fX12_order F a) := fun u s μ ν q => by
  obtain ⟨T, S, X, e, q1, q2, q3⟩ := id q
  obtain ⟨a1, a2, a3, a4, a5, a6, a7, a8, _⟩ := id q1
  unfold fX11_order fX12_order
  rcases p_fig (F := F) q1 a with ⟨f, hf, rfl, hc, hr⟩ | ⟨hc, hr⟩
  · have tb := tbC_f a7 hf
    obtain ⟨ok, bd⟩ := tF_b a3 hf
    have b0 := tBd_0 bd
    have iv : ∀ r : Int32, ∃ r' μ' ν', some (r, μ) = some (r', μ') ∧ some (r, ptb ν (tF X f)) = some (r', ν') ∧ Inv u s μ' ν' := fun r => ⟨r, μ, _, rfl, rfl, Inv_scr ag_rfl ag_ptb q⟩
    have hR := tbR_ptb (ν := ν) (t := tF X f)
    rw [hc, hr, bd2_s, bd2_s, oel_s, if_neg n1_0, p_tof hF a2 a3 hf a6 a8, bd1_s, p_noC (by rw [tb]; exact ok), p_noR, bd2_s, bd2_s, tb, tbR_ptb]
    by_cases w : ntS (tF X f) = true
    · rw [if_pos w, if_neg n1_0, if_neg n1_0]
      exact iv _
    · unfold fX6_trace
      rw [if_neg w, if_pos rfl, if_pos rfl, bd2_s, show gi (ptb ν (tF X f)) 12 0 57 = (tF X f).1 from congrArg (fun t => t.1) hR, show gi (ptb ν (tF X f)) 12 0 60 = (tF X f).2.2.2 from congrArg (fun t => t.2.2.2) hR, show gi μ 6 (9 * T + 4 + f) 0 = (tF X f).1 from congrArg (fun t => t.1) tb, show gi μ 6 (9 * T + 4 + f) 3 = (tF X f).2.2.2 from congrArg (fun t => t.2.2.2) tb, p_off (by rw [tz_add (by omega)]; omega), bd2_s]
      by_cases z0 : ab ((tF X f).1 + (tF X f).2.2.2) = 0
      · rw [if_pos z0, if_pos z0]
        exact iv _
      rw [if_neg z0, if_neg z0]
      by_cases z1 : ab ((tF X f).1 + (tF X f).2.2.2) = 1
      · rw [if_pos z1, if_pos z1]
        exact iv _
      rw [if_neg z1, if_neg z1]
      exact iv _
  · rw [hc, hr, bd2_s, bd2_s, oel_n, if_pos rfl]
    exact ⟨_, μ, ν, rfl, rfl, q⟩
theorem p_revL {F T S f : Nat} {X : Xt} (hF : 1000 ≤ F) (hT : T < 2) (hS2 : S < 2) (hX : Xok X) (hf : f < xm X) : ∀ (d n g : Nat) (μ ν : Mm), g + d = xm X → d < n → gi μ 11 0 2 = nI T → CT μ T X → gi ν 12 0 18 = nI S → RT ν S X → ∃ r μ' ν', fX11_reverse_L14 F n (9 * T + 4 + f) (nI g) μ = some (r, μ') ∧ fX12_reverse_L12 F n (nI f) (nI g) ν = some (r, ν') ∧ ag SC μ μ' ∧ ag SR ν ν'
  | _, 0, _, _, _, _, h, _, _, _, _ => absurd h (Nat.not_lt_zero _)
  | 0, n + 1, g, μ, ν, h1, h2, ht, hC, hS, hR => by
    have hm5 := hX.2.1
    rw [fX11_reverse_L14, fX12_reverse_L12, ht, tx_nI hT, hC.2.1, p_figN hS hS2 hR, bd2_s, if_pos (by rw [nn_le (by omega) (by omega)]; omega), if_pos (by rw [nn_le (by omega) (by omega)]; omega)]
    exact ⟨_, μ, ν, rfl, rfl, ag_rfl, ag_rfl⟩
  | d + 1, n + 1, g, μ, ν, h1, h2, ht, hC, hS, hR => by
    have hm5 := hX.2.1
    have hg : g < xm X := by omega
    obtain ⟨ok, bd⟩ := tFF_ok hX hf hg
    have w : ¬ nI (xm X) ≤ nI g := by
      rw [nn_le (by omega) (by omega)]
      omega
    obtain ⟨μ1, b1, b2, b3⟩ := p_become (F := F) (k := 18) (x := 9 * T + 4 + f) (y := 9 * T + 4 + g) (μ := μ) (by omega) (by omega)
    rw [tbC_f hC hf, tbC_f hC hg] at b3
    have gC : ag SC μ μ1 := ag_of b2 (fun c i j w => by unfold SC; omega)
    rw [fX11_reverse_L14, fX12_reverse_L12, ht, tx_nI hT, hC.2.1, p_figN hS hS2 hR, bd2_s, if_neg w, if_neg w, if_pos ((nn_inb (by omega)).mpr (by omega)), nn_cl (by omega), b1, bd1_s, p_tof hF hS2 hX hf hS hR, bd1_s, p_ton hF hS2 hX hg ((ptb_gi (by omega)).trans hS) (RT_ptb hR), bd1_s, tbR_ptb, ptb_ptb, p_noC (by rw [b3]; exact ok), p_noR, bd2_s, bd2_s, b3, tbR_ptb]
    by_cases z : ntS (mT (tF X g) (tF X f)) = true
    · rw [if_pos z, if_neg n1_0, if_neg n1_0]
      exact ⟨_, _, _, rfl, rfl, gC, ag_ptb⟩
    · rw [if_neg z, if_pos rfl, if_pos rfl, nn_s]
      obtain ⟨r, μ', ν', x1, x2, x3, x4⟩ := p_revL (S := S) hF hT hS2 hX hf d n (g + 1) μ1 (ptb ν (mT (tF X g) (tF X f))) (by omega) (by omega) ((ag_n b2 (by omega)).trans ht) (CT_ag hT hX b2 (fun c i j w y => by unfold Tc at w; omega) hC) ((ptb_gi (by omega)).trans hS) (RT_ptb hR)
      exact ⟨r, μ', ν', x1, x2, ag_tr gC x3, ag_tr ag_ptb x4⟩
theorem o_reverse {F : Nat} (hF : 1000 ≤ F) (a : Int32) : st2 Inv (fX11_reverse F a) (fX12_reverse F a) := fun u s μ ν q => by
  obtain ⟨T, S, X, e, q1, q2, q3⟩ := id q
  obtain ⟨a1, a2, a3, a4, a5, a6, a7, a8, _⟩ := id q1
  unfold fX11_reverse fX12_reverse
  rcases p_fig (F := F) q1 a with ⟨f, hf, rfl, hc, hr⟩ | ⟨hc, hr⟩
  · rw [hc, hr, bd2_s, bd2_s, oel_s, if_neg n1_0]
    obtain ⟨r, μ', ν', x1, x2, x3, x4⟩ := p_revL (F := F) hF a1 a2 a3 hf (xm X) F 0 μ ν (by omega) (by have := a3.2.1; omega) a4 a7 a6 a8
    exact ⟨r, μ', ν', x1, x2, Inv_scr x3 x4 q⟩
  · rw [hc, hr, bd2_s, bd2_s, oel_n, if_pos rfl]
    exact ⟨_, μ, ν, rfl, rfl, q⟩
