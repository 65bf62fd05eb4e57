/-! PURE: how long, and which -/
def par (l : Bl) (i : Nat) : Nat := (l.getD i ((0, 1), 0, 0)).2.1
def fgr (l : Bl) (i : Nat) : Nat := (l.getD i ((0, 1), 0, 0)).2.2
def dpF : Nat → Bl → Nat → Nat
  | 0, _, _ => 0
  | n + 1, l, i => if i = 0 then 0 else dpF n l (par l i) + 1
def dp (l : Bl) (i : Nat) : Nat := dpF i l i
def anc (l : Bl) : Nat → Nat → Nat
  | 0, i => i
  | n + 1, i => anc l n (par l i)
theorem getD_i {l : Bl} {i : Nat} (h : i < l.length) : l.getD i ((0, 1), 0, 0) = l[i] := by
  rw [List.getD_eq_getElem?_getD, List.getElem?_eq_getElem h]
  rfl
theorem par_lt {l : Bl} {i : Nat} (hw : WB l) (hi : i < l.length) (h0 : 0 < i) : par l i < i ∧ fgr l i < 5 := by
  unfold par fgr
  rw [getD_i hi]
  exact hw.2.2.1 i hi h0
theorem dpF_fuel {l : Bl} (hw : WB l) : ∀ (f g i : Nat), i < l.length → i ≤ f → i ≤ g → dpF f l i = dpF g l i
  | 0, 0, _, _, _, _ => rfl
  | 0, g + 1, i, _, h1, _ => by
    have e : i = 0 := by omega
    rw [dpF, dpF, if_pos e]
  | f + 1, 0, i, _, _, h2 => by
    have e : i = 0 := by omega
    rw [dpF, dpF, if_pos e]
  | f + 1, g + 1, i, hi, h1, h2 => by
    rw [dpF, dpF]
    by_cases e : i = 0
    · rw [if_pos e, if_pos e]
    · have := (par_lt hw hi (by omega)).1
      rw [if_neg e, if_neg e, dpF_fuel hw f g (par l i) (by omega) (by omega) (by omega)]
theorem dp_s {l : Bl} {i : Nat} (hw : WB l) (hi : i < l.length) (h0 : i ≠ 0) : dp l i = dp l (par l i) + 1 := by
  obtain ⟨k, rfl⟩ : ∃ k, i = k + 1 := ⟨i - 1, by omega⟩
  have := (par_lt hw hi (by omega)).1
  unfold dp
  rw [dpF, if_neg h0, dpF_fuel hw k (par l (k + 1)) (par l (k + 1)) (by omega) (by omega) (by omega)]
theorem dp_0 {l : Bl} : dp l 0 = 0 := rfl
theorem dp_le {l : Bl} (hw : WB l) : ∀ (m i : Nat), i < m → i < l.length → dp l i ≤ i
  | 0, _, h, _ => absurd h (Nat.not_lt_zero _)
  | m + 1, i, h, hi => by
    by_cases e : i = 0
    · rw [e, dp_0]
      exact Nat.zero_le _
    · have p := (par_lt hw hi (by omega)).1
      have := dp_le hw m (par l i) (by omega) (by omega)
      rw [dp_s hw hi e]
      omega
theorem dpF_app {l : Bl} {b : Tg × Nat × Nat} (hw : WB l) : ∀ (f i : Nat), i < l.length → dpF f (l ++ [b]) i = dpF f l i
  | 0, _, _ => rfl
  | f + 1, i, hi => by
    have e : par (l ++ [b]) i = par l i := by
      unfold par
      rw [List.getD_eq_getElem?_getD, List.getD_eq_getElem?_getD, List.getElem?_append_left hi]
    rw [dpF, dpF, e]
    by_cases z : i = 0
    · rw [if_pos z, if_pos z]
    · have p := (par_lt hw hi (by omega)).1
      rw [if_neg z, if_neg z, dpF_app hw f (par l i) (by omega)]
/-- the class's mark of the place i -/
theorem SM_at {μ : Mm} {l : Bl} {i : Nat} (hw : WB l) (hm : SM μ l) (hi : i < l.length) : gi μ 28 0 (cnN (l[i]).1) = if i = 0 then -1 else nI (cnN (l.getD (par l i) ((0, 1), 0, 0)).1 * 8 + fgr l i + 1) := by
  have e := hm i hi
  rw [(cn_in (hw.1 _ (List.getElem_mem hi))).2] at e
  rw [e]
  by_cases z : i = 0
  · rw [if_pos z, if_pos z]
  · obtain ⟨k1, k2⟩ := par_lt hw hi (by omega)
    rw [if_neg z, if_neg z]
    have tp := hw.1 _ (List.getElem_mem (show par l i < l.length by omega))
    have e1 : (l[i]).2.1 = par l i := by unfold par; rw [getD_i hi]
    have e2 : (l[i]).2.2 = fgr l i := by unfold fgr; rw [getD_i hi]
    rw [e1, e2, getD_i (show par l i < l.length by omega), mk_nz tp (by omega)]
theorem p_lenL {F D : Nat} {l : Bl} {μ : Mm} (hw : WB l) (hq : SQ μ l) (hm : SM μ l) (hD : D < l.length) : ∀ (m n i s : Nat), i < m → i < n → (hi : i < l.length) → s + dp l i = D → fX4_lengthTo_L15 F n (nI s) (cn (l[i]).1) μ = some (nI D, μ)
  | 0, _, _, _, h, _, _, _ => absurd h (Nat.not_lt_zero _)
  | _ + 1, 0, _, _, _, h, _, _ => absurd h (Nat.not_lt_zero _)
  | m + 1, n + 1, i, s, h1, h2, hi, hs => by
    have hl := WB_len hw
    obtain ⟨c1, c2⟩ := cn_in (hw.1 _ (List.getElem_mem hi))
    rw [fX4_lengthTo_L15, hq.1, if_neg (by rw [nn_le (by omega) (by omega)]; omega), if_pos c1, c2, SM_at hw hm hi]
    by_cases z : i = 0
    · rw [if_pos z, if_pos rfl]
      rw [z, dp_0] at hs
      rw [show s = D by omega]
    · obtain ⟨k1, k2⟩ := par_lt hw hi (by omega)
      have hp : par l i < l.length := by omega
      have tp := hw.1 _ (List.getElem_mem hp)
      obtain ⟨f1, f2, _⟩ := cn_f tp
      rw [if_neg z, getD_i hp, if_neg (fun y => by
        have := congrArg Int32.toInt y
        rw [nI_toInt (by omega), show (-1 : Int32).toInt = -1 from rfl] at this
        omega)]
      have e : (nI (cnN (l[par l i]).1 * 8 + fgr l i + 1) - 1) / 8 = cn (l[par l i]).1 := by
        rw [f1, show (1 : Int32) = nI 1 from rfl, nn_sub (by omega), show (8 : Int32) = nI 8 from rfl, nn_div (by omega) (by omega)]
        congr 1
        omega
      rw [e, nn_s]
      have ds := dp_s hw hi z
      exact p_lenL hw hq hm hD m n (par l i) (s + 1) (by omega) (by omega) hp (by omega)
theorem p_len {F j : Nat} {l : Bl} {μ : Mm} (hF : 100000 ≤ F) (hw : WB l) (hq : SQ μ l) (hm : SM μ l) (hj : j < l.length) : fX4_lengthTo F (cn (l[j]).1) μ = some (nI (dp l j), μ) := by
  have hl := WB_len hw
  have hd := dp_le hw (j + 1) j (by omega) hj
  obtain ⟨c1, c2⟩ := cn_in (hw.1 _ (List.getElem_mem hj))
  unfold fX4_lengthTo
  rw [if_pos c1, c2, if_neg (SM_nz hw hm hj)]
  exact p_lenL hw hq hm (by omega) (j + 1) F j 0 (by omega) (by omega) hj (by omega)
theorem p_lenN {F : Nat} {l : Bl} {μ : Mm} {v : Tg} (hq : SQ μ l) (hw : WB l) (hv : tV v) (hn : ∀ i (hi : i < l.length), (l[i]).1 ≠ v) : fX4_lengthTo F (cn v) μ = some (-1, μ) := by
  obtain ⟨c1, c2⟩ := cn_in hv
  obtain ⟨f1, f2, _⟩ := cn_f hv
  unfold fX4_lengthTo
  rw [if_pos c1, c2, if_pos (Classical.byContradiction (fun y => by
    obtain ⟨i, hi, e⟩ := hq.2.2.2 _ f2 y
    rw [← f1] at e
    exact hn i hi (cn_inj (hw.1 _ (List.getElem_mem hi)) hv e)))]
theorem nn_le0 {a : Nat} (h : 0 < a) (h2 : a < 2147483648) : ¬ nI a ≤ 0 := by
  rw [show (0 : Int32) = nI 0 from rfl, nn_le h2 (by decide)]
  omega
theorem p_fbL {F : Nat} {l : Bl} {μ : Mm} {B : Nat} (hw : WB l) (hm : SM μ l) (hB : B < 2147483648) : ∀ (d n i s : Nat), s + d = B → d < n → (hi : i < l.length) → d < dp l i → fX4_figureBeforeLast_L5 F n (nI B) (cn (l[i]).1) (nI s) μ = some (nI (fgr l (anc l d i)), μ)
  | _, 0, _, _, _, h, _, _ => absurd h (Nat.not_lt_zero _)
  | 0, n + 1, i, s, h1, h2, hi, hd => by
    have z : i ≠ 0 := fun z => by
      rw [z, dp_0] at hd
      omega
    obtain ⟨c1, c2⟩ := cn_in (hw.1 _ (List.getElem_mem hi))
    obtain ⟨k1, k2⟩ := par_lt hw hi (by omega)
    have hp : par l i < l.length := by omega
    have hl := WB_len hw
    obtain ⟨f1, f2, _⟩ := cn_f (hw.1 _ (List.getElem_mem hp))
    rw [fX4_figureBeforeLast_L5, if_pos (by rw [nn_le (by omega) (by omega)]; omega)]
    unfold fX4_figureBeforeLast_L38 anc
    rw [if_pos c1, c2, SM_at hw hm hi, if_neg z, getD_i hp, if_neg (nn_le0 (show 0 < cnN (l[par l i]).1 * 8 + fgr l i + 1 by omega) (by omega)), show (1 : Int32) = nI 1 from rfl, nn_sub (by omega), show (8 : Int32) = nI 8 from rfl, nn_irm (by omega) (by omega), show (cnN (l[par l i]).1 * 8 + fgr l i + 1 - 1) % 8 = fgr l i by omega]
  | d + 1, n + 1, i, s, h1, h2, hi, hd => by
    have z : i ≠ 0 := fun z => by
      rw [z, dp_0] at hd
      omega
    obtain ⟨c1, c2⟩ := cn_in (hw.1 _ (List.getElem_mem hi))
    obtain ⟨k1, k2⟩ := par_lt hw hi (by omega)
    have hp : par l i < l.length := by omega
    have hl := WB_len hw
    obtain ⟨f1, f2, _⟩ := cn_f (hw.1 _ (List.getElem_mem hp))
    have ds := dp_s hw hi z
    have e : (nI (cnN (l[par l i]).1 * 8 + fgr l i + 1) - 1) / 8 = cn (l[par l i]).1 := by
      rw [f1, show (1 : Int32) = nI 1 from rfl, nn_sub (by omega), show (8 : Int32) = nI 8 from rfl, nn_div (by omega) (by omega)]
      congr 1
      omega
    rw [fX4_figureBeforeLast_L5, if_neg (by rw [nn_le (by omega) (by omega)]; omega), if_pos c1, c2, SM_at hw hm hi, if_neg z, getD_i hp, if_neg (nn_le0 (show 0 < cnN (l[par l i]).1 * 8 + fgr l i + 1 by omega) (by omega)), e, nn_s]
    exact p_fbL hw hm hB d n (par l i) (s + 1) (by omega) (by omega) hp (by omega)
/-! the reference goes through the same -/
def Pg (c i j : Nat) : Prop := (80 ≤ c ∧ c ≤ 83) ∨ (c = 12 ∧ j = 56)
def eN (t : Tg) : Nat := (enc t).toNatClampNeg
theorem eN_f {t : Tg} (h : tV t) : enc t = nI (eN t) ∧ eN t < 20000 ∧ inb (enc t) 20000 = true := by
  have h' := enc_in h
  have e := i_inb.mp h'
  have c : eN t = (enc t).toInt.toNat := rfl
  exact ⟨by rw [c]; exact nn_get e.1, by omega, h'⟩
theorem eN_inj {t v : Tg} (h : tV t) (h' : tV v) (e : eN t = eN v) : t = v := enc_inj h h' (by rw [(eN_f h).1, (eN_f h').1, e])
def RQ (ν : Mm) (l : Bl) : Prop := gi ν 12 0 56 = nI l.length ∧ (∀ i, (h : i < l.length) → gi ν 83 0 i = enc (l[i]).1 ∧ gi ν 80 0 (eN (l[i]).1) = nI (dp l i) ∧ (i ≠ 0 → gi ν 81 0 (eN (l[i]).1) = enc (l.getD (par l i) ((0, 1), 0, 0)).1 ∧ gi ν 82 0 (eN (l[i]).1) = nI (fgr l i))) ∧
  ∀ x, x < 20000 → gi ν 80 0 x = -1 ∨ ∃ i, ∃ h : i < l.length, eN (l[i]).1 = x
theorem p_gf {F S n k f : Nat} {X : Xt} {l : Bl} {ν : Mm} {K : Int32 → Mm → Option Mm} (hF : 1000 ≤ F) (hS2 : S < 2) (hX : Xok X) (hS : gi ν 12 0 18 = nI S) (hR : RT ν S X) (hw : WB l) (hq : RQ ν l) (hk : k < l.length) (hf : f < xm X) : ∃ ν', fX12_goesThrough_L53 F K (n + 1) (nI k) (nI f) ν = fX12_goesThrough_L53 F K n (nI k) (nI (f + 1)) ν' ∧ ag Pg ν ν' ∧ RQ ν' (bst X k f l) := by
  have hm5 := hX.2.1
  have hl := WB_len hw
  have tk := hw.1 _ (List.getElem_mem hk)
  obtain ⟨x1, x2⟩ := hX.2.2.1 f hf
  obtain ⟨q1, q2, q3⟩ := hq
  have e83 := (q2 k hk).1
  have cb := p_calledBy (F := F) (m := xv X f) (N := xl X f) (t := (l[k]).1) hF x1 (show 9 * S + 4 + f < 18 by omega) hS x2 (hR.2.2.2.1 f hf).2 tk
  have hu : tV (mkp (xv X f) (xl X f) 0 (l[k]).1).2 := tV_mkp _ _ _ (fun i _ hi => x2 i (by omega)) tk
  rw [fX12_goesThrough_L53, p_figN hS hS2 hR, bd2_s, if_neg (show ¬ nI (xm X) ≤ nI f by rw [nn_le (by omega) (by omega)]; omega), if_pos ((nn_inb (by omega)).mpr (by omega)), p_movesOf hS hS2 hX hR hf, bd2_s, nn_cl (by omega), e83, cb, bd2_s, bst_c hk]
  unfold fX12_goesThrough_L159 encO
  by_cases c : (mkp (xv X f) (xl X f) 0 (l[k]).1).1 = true
  · rw [if_pos c, if_pos c]
    generalize (mkp (xv X f) (xl X f) 0 (l[k]).1).2 = u at *
    obtain ⟨u1, u2, u3⟩ := eN_f hu
    obtain ⟨v1, v2, v3⟩ := eN_f tk
    rw [if_neg (enc_nn hu), if_pos u3]
    rw [show (enc u).toNatClampNeg = eN u from rfl]
    by_cases z : ∃ i, ∃ h : i < l.length, (l[i]).1 = u
    · have zz := z
      obtain ⟨i, hi, rfl⟩ := zz
      have d := (q2 i hi).2.1
      have hd := dp_le hw (i + 1) i (by omega) hi
      rw [if_pos z, d, if_neg (nn_neg (by omega)), nn_s]
      exact ⟨ν, rfl, ag_rfl, q1, q2, q3⟩
    · have hn : ∀ i (hi : i < l.length), (l[i]).1 ≠ u := fun i hi y => z ⟨i, hi, y⟩
      have neN : ∀ i (hi : i < l.length), eN (l[i]).1 ≠ eN u := fun i hi y => hn i hi (eN_inj (hw.1 _ (List.getElem_mem hi)) hu y)
      have z0 : gi ν 80 0 (eN u) = -1 := by
        rcases q3 _ u2 with y | ⟨i, hi, y⟩
        · exact y
        · exact absurd y (neN i hi)
      have hw' := WB_app hw hu hn hk (show f < 5 by omega)
      have hl' := WB_len hw'
      have len : (l ++ [(u, k, f)]).length = l.length + 1 := by simp
      have ga : ∀ i (hi : i < l.length) (hi' : i < (l ++ [(u, k, f)]).length), (l ++ [(u, k, f)])[i] = l[i] := fun i hi hi' => List.getElem_append_left hi
      have gb : ∀ (hi' : l.length < (l ++ [(u, k, f)]).length), (l ++ [(u, k, f)])[l.length] = (u, k, f) := fun hi' => by
        rw [List.getElem_append_right (Nat.le_refl _)]
        simp
      have gd : ∀ i, i < l.length → (l ++ [(u, k, f)]).getD i ((0, 1), 0, 0) = l.getD i ((0, 1), 0, 0) := fun i hi => by
        rw [List.getD_eq_getElem?_getD, List.getD_eq_getElem?_getD, List.getElem?_append_left hi]
      have gD : (l ++ [(u, k, f)]).getD l.length ((0, 1), 0, 0) = (u, k, f) := by
        rw [getD_i (by omega), gb (by omega)]
      have dk := (q2 k hk).2.1
      have hdk := dp_le hw (k + 1) k (by omega) hk
      rw [if_neg z, z0, if_pos (by decide), e83, if_pos v3, show (enc (l[k]).1).toNatClampNeg = eN (l[k]).1 from rfl, dk, nn_s, gi_ne (c := 80) (c' := 83) (by omega), e83]
      have n56 : ∀ (w1 w2 w3 : Int32), gi (si (si (si ν 80 0 (eN u) w1) 81 0 (eN u) w2) 82 0 (eN u) w3) 12 0 56 = nI l.length := fun w1 w2 w3 => by
        rw [gi_ne (by omega), gi_ne (by omega), gi_ne (by omega), q1]
      rw [n56, if_pos ((nn_inb (by omega)).mpr (by omega)), nn_cl (by omega), gi_ne (c := 83) (by omega), n56, nn_s, nn_s]
      refine ⟨_, rfl, ⟨fun a b d y => ?_, fun _ _ _ => rfl⟩, ?_, fun i hi => ?_, fun x hx => ?_⟩
      · unfold Pg at y
        rw [gi_ne (by omega), gi_ne (by omega), gi_ne (by omega), gi_ne (by omega), gi_ne (by omega)]
      · rw [gi_eq, len]
      · by_cases w1 : i = l.length
        · subst w1
          rw [gb hi]
          refine ⟨by rw [gi_ne (by omega), gi_eq], ?_, fun _ => ⟨?_, ?_⟩⟩
          · rw [gi_ne (by omega), gi_ne (by omega), gi_ne (by omega), gi_ne (by omega), gi_eq]
            have pe : par (l ++ [(u, k, f)]) l.length = k := by
              unfold par
              rw [gD]
            rw [dp_s hw' hi (by have := hw.2.2.2; omega), pe]
            unfold dp
            rw [dpF_app hw k k hk]
          · rw [gi_ne (by omega), gi_ne (by omega), gi_ne (by omega), gi_eq]
            have pe : par (l ++ [(u, k, f)]) l.length = k := by
              unfold par
              rw [gD]
            rw [pe, gd k hk, getD_i hk]
          · rw [gi_ne (by omega), gi_ne (by omega), gi_eq]
            unfold fgr
            rw [gD]
        · have hi2 : i < l.length := by omega
          obtain ⟨p1, p2, p3⟩ := q2 i hi2
          have ne := neN i hi2
          rw [ga i hi2]
          refine ⟨by rw [gi_ne (by omega), gi_ne (by omega), gi_ne (by omega), gi_ne (by omega), gi_ne (by omega), p1], ?_, fun i0 => ?_⟩
          · rw [gi_ne (by omega), gi_ne (by omega), gi_ne (by omega), gi_ne (by omega), gi_ne (by omega), p2]
            unfold dp
            rw [dpF_app hw i i hi2]
          · obtain ⟨p4, p5⟩ := p3 i0
            have pk := (par_lt hw hi2 (by omega)).1
            have pe : par (l ++ [(u, k, f)]) i = par l i := by
              unfold par
              rw [gd i hi2]
            have fe : fgr (l ++ [(u, k, f)]) i = fgr l i := by
              unfold fgr
              rw [gd i hi2]
            rw [pe, fe, gd _ (by omega)]
            exact ⟨by rw [gi_ne (by omega), gi_ne (by omega), gi_ne (by omega), gi_ne (by omega), gi_ne (by omega), p4], by rw [gi_ne (by omega), gi_ne (by omega), gi_ne (by omega), gi_ne (by omega), gi_ne (by omega), p5]⟩
      · by_cases w1 : x = eN u
        · exact Or.inr ⟨l.length, by omega, by rw [gb (by omega)]; exact w1.symm⟩
        · rw [gi_ne (by omega), gi_ne (by omega), gi_ne (by omega), gi_ne (by omega), gi_ne (by omega)]
          rcases q3 x hx with y | ⟨i, hi, y⟩
          · exact Or.inl y
          · exact Or.inr ⟨i, by omega, by rw [ga i hi (by omega)]; exact y⟩
  · rw [if_neg c, if_neg c, if_pos (by decide), nn_s]
    exact ⟨ν, rfl, ag_rfl, q1, q2, q3⟩
