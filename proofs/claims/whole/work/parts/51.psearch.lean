/-! PURE: the search. Tangles by number -/
def cnN (t : Tg) : Nat := (t.1.toInt + 99).toNat * 100 + t.2.toInt.toNat
theorem cn_f {t : Tg} (h : tV t) : cn t = nI (cnN t) ∧ cnN t < 19900 ∧ (cn t).toInt = (t.1.toInt + 99) * 100 + t.2.toInt := by
  obtain ⟨h1, h2, h3, h4, h5, h6⟩ := h
  have b : cnN t < 19900 := by
    unfold cnN
    omega
  have e : (cn t).toInt = (t.1.toInt + 99) * 100 + t.2.toInt := by
    unfold cn
    have a1 : (t.1 + 99).toInt = t.1.toInt + 99 := tz_add (by rw [show (99 : Int32).toInt = 99 from rfl]; omega)
    have a2 : ((t.1 + 99) * 100).toInt = (t.1.toInt + 99) * 100 := by
      rw [tz_mul (by rw [a1, show (100 : Int32).toInt = 100 from rfl]; omega), a1]
      rfl
    rw [tz_add (by rw [a2]; omega), a2]
  refine ⟨?_, b, e⟩
  rw [i_eq, e, nI_toInt (by omega)]
  unfold cnN
  omega
theorem cnN_inj {t v : Tg} (h : tV t) (h' : tV v) (e : cnN t = cnN v) : t = v := by
  obtain ⟨h1, h2, h3, h4, h5, h6⟩ := h
  obtain ⟨g1, g2, g3, g4, g5, g6⟩ := h'
  unfold cnN at e
  exact Prod.ext (i_eq.mpr (by omega)) (i_eq.mpr (by omega))
theorem cn_inj {t v : Tg} (h : tV t) (h' : tV v) (e : cn t = cn v) : t = v := by
  obtain ⟨a1, a2, a3⟩ := cn_f h
  obtain ⟨b1, b2, b3⟩ := cn_f h'
  rw [a1, b1, nn_inj (by omega) (by omega)] at e
  exact cnN_inj h h' e
theorem cn_dec {t : Tg} (h : tV t) : cn t / 100 - 99 = t.1 ∧ irm (cn t) 100 = t.2 := by
  obtain ⟨a1, a2, a3⟩ := cn_f h
  obtain ⟨h1, h2, h3, h4, h5, h6⟩ := h
  have d : (nI (cnN t) / nI 100).toInt = (cnN t / 100 : Nat) := by
    rw [nn_div (by omega) (by decide), nI_toInt (by omega)]
  have e1 : cnN t / 100 = (t.1.toInt + 99).toNat := by
    unfold cnN
    omega
  have e2 : cnN t % 100 = t.2.toInt.toNat := by
    unfold cnN
    omega
  rw [a1, show (100 : Int32) = nI 100 from rfl]
  constructor
  · rw [i_eq, tz_sub (by rw [d, show (99 : Int32).toInt = 99 from rfl]; omega), d, show (99 : Int32).toInt = 99 from rfl]
    omega
  · rw [i_eq, nn_irm (by omega) (by decide), nI_toInt (by omega)]
    omega
def vCode (p q : Nat) : Bool := (Nat.gcd (if p ≤ 99 then 99 - p else p - 99) q == 1) && (q != 0 || p == 100)
def vList : List Nat := (List.range 199).flatMap (fun p => ((List.range 100).filter (vCode p)).map (fun q => p * 100 + q))
theorem vList_len : vList.length = 12016 := by
  unfold vList
  rw [List.length_flatMap]
  simp only [List.length_map]
  decide +kernel
theorem vList_mem {t : Tg} (h : tV t) : cnN t ∈ vList := by
  obtain ⟨h1, h2, h3, h4, h5, h6⟩ := h
  unfold vList
  refine List.mem_flatMap.mpr ⟨(t.1.toInt + 99).toNat, List.mem_range.mpr (by omega), List.mem_map.mpr ⟨t.2.toInt.toNat, List.mem_filter.mpr ⟨List.mem_range.mpr (by omega), ?_⟩, rfl⟩⟩
  unfold gcd1 at h5
  have e1 : (if (t.1.toInt + 99).toNat ≤ 99 then 99 - (t.1.toInt + 99).toNat else (t.1.toInt + 99).toNat - 99) = t.1.toInt.natAbs := by
    split <;> omega
  have e2 : t.2.toInt.toNat = t.2.toInt.natAbs := by omega
  unfold vCode
  rw [e1, e2, h5]
  simp
  by_cases z : t.2.toInt = 0
  · right
    have := h6 z
    omega
  · left
    omega
theorem pig : ∀ (l b : List Nat), l.Nodup → (∀ x, x ∈ l → x ∈ b) → l.length ≤ b.length
  | [], _, _, _ => Nat.zero_le _
  | x :: l, b, h1, h2 => by
    have hx : x ∈ b := h2 x (List.mem_cons_self ..)
    have hn := List.nodup_cons.mp h1
    have := pig l (b.erase x) hn.2 (fun y hy => (List.mem_erase_of_ne (fun (e : y = x) => hn.1 (by rw [← e]; exact hy))).mpr (h2 y (List.mem_cons_of_mem _ hy)))
    rw [List.length_erase_of_mem hx] at this
    have : 0 < b.length := List.length_pos_of_mem hx
    simp only [List.length_cons]
    omega
/-! a list that is well formed -/
def WB (l : Bl) : Prop := (∀ b ∈ l, tV b.1) ∧ (∀ i j (hi : i < l.length) (hj : j < l.length), (l[i]).1 = (l[j]).1 → i = j) ∧ (∀ i (h : i < l.length), 0 < i → (l[i]).2.1 < i ∧ (l[i]).2.2 < 5) ∧ 0 < l.length
theorem WB_len {l : Bl} (h : WB l) : l.length ≤ 12016 := by
  have := pig (l.map (fun b => cnN b.1)) vList (List.pairwise_iff_getElem.mpr (fun i j hi hj hij e => by
    simp only [List.length_map] at hi hj
    simp only [List.getElem_map] at e
    have := h.2.1 i j hi hj (cnN_inj (h.1 _ (List.getElem_mem hi)) (h.1 _ (List.getElem_mem hj)) e)
    omega)) (fun x hx => by
    obtain ⟨b, hb, rfl⟩ := List.mem_map.mp hx
    exact vList_mem (h.1 b hb))
  rw [List.length_map, vList_len] at this
  exact this
theorem WB_1 {t : Tg} (h : tV t) : WB [(t, 0, 0)] := ⟨fun b hb => by
  rw [List.mem_singleton.mp hb]
  exact h, fun i j hi hj _ => by
  simp only [List.length_singleton] at hi hj
  omega, fun i hi h0 => by
  simp only [List.length_singleton] at hi
  omega, Nat.one_pos⟩
theorem WB_app {l : Bl} {c : Tg} {k f : Nat} (h : WB l) (hc : tV c) (hn : ∀ i (hi : i < l.length), (l[i]).1 ≠ c) (hk : k < l.length) (hf : f < 5) : WB (l ++ [(c, k, f)]) := by
  have ga : ∀ i (hi : i < l.length) (hi' : i < (l ++ [(c, k, f)]).length), (l ++ [(c, k, f)])[i] = l[i] := fun i hi hi' => List.getElem_append_left hi
  have gb : ∀ (hi' : l.length < (l ++ [(c, k, f)]).length), (l ++ [(c, k, f)])[l.length] = (c, k, f) := fun hi' => by
    rw [List.getElem_append_right (Nat.le_refl _)]
    simp
  have len : (l ++ [(c, k, f)]).length = l.length + 1 := by simp
  refine ⟨fun b hb => ?_, fun i j hi hj e => ?_, fun i hi h0 => ?_, by omega⟩
  · rcases List.mem_append.mp hb with hb | hb
    · exact h.1 b hb
    · rw [List.mem_singleton.mp hb]
      exact hc
  · by_cases w1 : i = l.length <;> by_cases w2 : j = l.length
    · omega
    · subst w1
      rw [gb hi, ga j (by omega)] at e
      exact absurd e.symm (hn j (by omega))
    · subst w2
      rw [gb hj, ga i (by omega)] at e
      exact absurd e (hn i (by omega))
    · rw [ga i (by omega), ga j (by omega)] at e
      exact h.2.1 i j (by omega) (by omega) e
  · by_cases w1 : i = l.length
    · subst w1
      rw [gb hi]
      exact ⟨hk, hf⟩
    · rw [ga i (by omega)]
      exact h.2.2.1 i (by omega) h0
/-- one FIGURE tried -/
theorem bst_c {X : Xt} {k f : Nat} {l : Bl} (hk : k < l.length) : bst X k f l = if (mkp (xv X f) (xl X f) 0 (l[k]).1).1 = true then (if ∃ i, ∃ h : i < l.length, (l[i]).1 = (mkp (xv X f) (xl X f) 0 (l[k]).1).2 then l else l ++ [((mkp (xv X f) (xl X f) 0 (l[k]).1).2, k, f)]) else l := by
  unfold bst
  rw [List.getElem?_eq_getElem hk]
  show (if (mkp (xv X f) (xl X f) 0 (l[k]).1).1 = true then _ else _) = _
  by_cases w : (mkp (xv X f) (xl X f) 0 (l[k]).1).1 = true
  · rw [if_pos w, if_pos w]
    generalize (mkp (xv X f) (xl X f) 0 (l[k]).1).2 = c
    have e : (l.any (fun b => b.1 == c) = true) ↔ ∃ i, ∃ h : i < l.length, (l[i]).1 = c := by
      rw [List.any_eq_true]
      constructor
      · rintro ⟨b, hb, hc⟩
        obtain ⟨i, hi, rfl⟩ := List.getElem_of_mem hb
        exact ⟨i, hi, eq_of_beq hc⟩
      · rintro ⟨i, hi, hc⟩
        exact ⟨l[i], List.getElem_mem hi, by rw [hc]; exact beq_self_eq_true c⟩
    by_cases z : ∃ i, ∃ h : i < l.length, (l[i]).1 = c
    · rw [if_pos z, if_pos (e.mpr z)]
    · rw [if_neg z, if_neg (fun y => z (e.mp y))]
  · rw [if_neg w, if_neg w]
theorem bst_w {X : Xt} {k f : Nat} {l : Bl} (hX : Xok X) (h : WB l) (hk : k < l.length) (hf : f < xm X) : WB (bst X k f l) ∧ k < (bst X k f l).length := by
  have hm5 := hX.2.1
  rw [bst_c hk]
  by_cases w : (mkp (xv X f) (xl X f) 0 (l[k]).1).1 = true
  · rw [if_pos w]
    by_cases z : ∃ i, ∃ h : i < l.length, (l[i]).1 = (mkp (xv X f) (xl X f) 0 (l[k]).1).2
    · rw [if_pos z]
      exact ⟨h, hk⟩
    · rw [if_neg z]
      refine ⟨WB_app h (tV_mkp _ _ _ (fun i _ hi => (hX.2.2.1 f hf).2 i (by omega)) (h.1 _ (List.getElem_mem hk))) (fun i hi e => z ⟨i, hi, e⟩) hk (by omega), ?_⟩
      simp
      omega
  · rw [if_neg w]
    exact ⟨h, hk⟩
theorem bsf_w {X : Xt} {k : Nat} (hX : Xok X) : ∀ (d f : Nat) (l : Bl), f + d = xm X → WB l → k < l.length → WB (bsf X k d f l) ∧ k < (bsf X k d f l).length
  | 0, _, _, _, h, hk => ⟨h, hk⟩
  | d + 1, f, l, hd, h, hk => by
    obtain ⟨a, b⟩ := bst_w hX h hk (show f < xm X by omega)
    exact bsf_w hX d (f + 1) _ (by omega) a b
theorem bsk_w {X : Xt} (hX : Xok X) : ∀ (n k : Nat) (l : Bl), WB l → WB (bsk X n k l)
  | 0, _, _, h => h
  | n + 1, k, l, h => by
    unfold bsk
    by_cases w : k < l.length
    · rw [if_pos w]
      exact bsk_w hX n (k + 1) _ (bsf_w hX (xm X) 0 l (by omega) h w).1
    · rw [if_neg w]
      exact h
theorem bfs_w {X : Xt} {t : Tg} (hX : Xok X) (h : tV t) : WB (bfs X t) := bsk_w hX _ _ _ (WB_1 h)
/-! the class finds the same -/
def Ps (c i j : Nat) : Prop := c = 4 ∨ c = 27 ∨ c = 28 ∨ (c = 5 ∧ i = 9)
theorem p_num {F : Nat} {t : Tg} {μ : Mm} (h : tV t) : fX4_number F t.1 t.2 μ = some (cn t, μ) := by
  have e := cn_f h
  obtain ⟨h1, h2, h3, h4, h5, h6⟩ := h
  unfold fX4_number fX5_isTangle
  rw [if_neg (show ¬ t.1 < -99 from fun z => by have : t.1.toInt < -99 := i_lt.mp z; omega), if_neg (show ¬ 99 < t.1 from fun z => by have : 99 < t.1.toInt := i_lt.mp z; omega), bd2_s, if_neg n1_0, if_neg (fun z => by have := i_lt0.mp z; omega), if_neg (show ¬ 99 < t.2 from fun z => by have : 99 < t.2.toInt := i_lt.mp z; omega)]
  unfold fX4_number_L22
  rw [if_neg n1_0]
  rfl
theorem cn_in {t : Tg} (h : tV t) : inb (cn t) 19900 = true ∧ (cn t).toNatClampNeg = cnN t := by
  obtain ⟨a1, a2, a3⟩ := cn_f h
  rw [a1]
  exact ⟨(nn_inb (by omega)).mpr a2, nn_cl (by omega)⟩
/-- the mark of a tangle: -1 the first one's -/
def mkN (l : Bl) (i : Nat) (b : Tg × Nat × Nat) : Int32 := if i = 0 then -1 else cn ((l.getD b.2.1 ((0, 1), 0, 0)).1) * 8 + nI b.2.2 + 1
theorem mk_nz {t : Tg} {f : Nat} (h : tV t) (hf : f < 8) : cn t * 8 + nI f + 1 = nI (cnN t * 8 + f + 1) := by
  obtain ⟨a1, a2, a3⟩ := cn_f h
  rw [a1, show (8 : Int32) = nI 8 from rfl, nn_mul, nn_add, nn_s]
theorem SM_nz {μ : Mm} {l : Bl} {i : Nat} (hw : WB l) (h : SM μ l) (hi : i < l.length) : gi μ 28 0 (cnN (l[i]).1) ≠ 0 := by
  have e := h i hi
  rw [(cn_in (hw.1 _ (List.getElem_mem hi))).2] at e
  rw [e]
  by_cases z : i = 0
  · rw [if_pos z]
    decide
  · rw [if_neg z]
    obtain ⟨k1, k2⟩ := hw.2.2.1 i hi (by omega)
    rw [List.getD_eq_getElem?_getD, List.getElem?_eq_getElem (show (l[i]).2.1 < l.length by omega)]
    have tp := hw.1 _ (List.getElem_mem (show (l[i]).2.1 < l.length by omega))
    obtain ⟨_, c2, _⟩ := cn_f tp
    show cn (l[(l[i]).2.1]).1 * 8 + nI (l[i]).2.2 + 1 ≠ 0
    rw [mk_nz tp (by omega), show (0 : Int32) = nI 0 from rfl]
    intro y
    rw [nn_inj (by omega) (by omega)] at y
    omega
theorem p_add {F k f : Nat} {c : Tg} {l : Bl} {μ : Mm} {w : Int32} (hw : WB l) (hq : SQ μ l) (hm : SM μ l) (hc : tV c) (hk : k < l.length) (hf : f < 5) (e : w = cn (l[k]).1 * 8 + nI f + 1) : ∃ μ', fX4_add F (cn c) w μ = some μ' ∧ ag Ps μ μ' ∧ gi μ' 4 0 1 = gi μ 4 0 1 ∧
    SQ μ' (if ∃ i, ∃ h : i < l.length, (l[i]).1 = c then l else l ++ [(c, k, f)]) ∧ SM μ' (if ∃ i, ∃ h : i < l.length, (l[i]).1 = c then l else l ++ [(c, k, f)]) := by
  obtain ⟨q1, q2, q3, q4⟩ := hq
  obtain ⟨c1, c2⟩ := cn_in hc
  obtain ⟨c3, c4, _⟩ := cn_f hc
  unfold fX4_add
  rw [if_pos c1, c2]
  by_cases z : ∃ i, ∃ h : i < l.length, (l[i]).1 = c
  · rw [if_pos z]
    obtain ⟨i, hi, rfl⟩ := z
    rw [if_neg (SM_nz hw hm hi)]
    exact ⟨μ, rfl, ag_rfl, rfl, ⟨q1, q2, q3, q4⟩, hm⟩
  · have hn : ∀ i (hi : i < l.length), (l[i]).1 ≠ c := fun i hi y => z ⟨i, hi, y⟩
    have z0 : gi μ 28 0 (cnN c) = 0 := Classical.byContradiction (fun y => by
      obtain ⟨i, hi, x⟩ := q4 _ c4 y
      rw [← c3] at x
      exact hn i hi (cn_inj (hw.1 _ (List.getElem_mem hi)) hc x))
    have hw' := WB_app hw hc hn hk hf
    have hl := WB_len hw'
    have len : (l ++ [(c, k, f)]).length = l.length + 1 := by simp
    have ga : ∀ i (hi : i < l.length) (hi' : i < (l ++ [(c, k, f)]).length), (l ++ [(c, k, f)])[i] = l[i] := fun i hi hi' => List.getElem_append_left hi
    have gb : ∀ (hi' : l.length < (l ++ [(c, k, f)]).length), (l ++ [(c, k, f)])[l.length] = (c, k, f) := fun hi' => by
      rw [List.getElem_append_right (Nat.le_refl _)]
      simp
    have n4 : gi (si μ 28 0 (cnN c) w) 4 0 0 = nI l.length := by
      rw [gi_ne (by omega), q1]
    rw [if_neg z, if_pos z0, q1, if_neg (show ¬ (12016 : Int32) ≤ nI l.length by rw [show (12016 : Int32) = nI 12016 from rfl, nn_le (by omega) (by omega)]; omega), n4, if_pos ((nn_inb (by omega)).mpr (by omega)), nn_cl (by omega), gi_ne (c := 27) (by omega), n4, nn_s]
    refine ⟨_, rfl, ⟨fun a b d y => ?_, fun _ _ _ => rfl⟩, ?_, ⟨?_, by omega, fun i hi => ?_, fun x hx y => ?_⟩, fun i hi => ?_⟩
    · unfold Ps at y
      rw [gi_ne (by omega), gi_ne (by omega), gi_ne (by omega)]
    · rw [gi_ne (by omega), gi_ne (by omega), gi_ne (by omega)]
    · rw [gi_eq, len]
    · rw [gi_ne (by omega), gi_si]
      by_cases w1 : i = l.length
      · subst w1
        rw [if_pos ⟨rfl, rfl, rfl⟩, gb hi]
      · rw [if_neg (by omega), gi_ne (by omega), ga i (by omega), q3 i (by omega)]
    · rw [gi_ne (by omega), gi_ne (by omega), gi_si] at y
      by_cases w1 : x = cnN c
      · refine ⟨l.length, by omega, ?_⟩
        rw [gb (by omega), w1]
        exact c3
      · rw [if_neg (by omega)] at y
        obtain ⟨i, hi, x1⟩ := q4 x hx y
        exact ⟨i, by omega, by rw [ga i hi (by omega)]; exact x1⟩
    · rw [gi_ne (by omega), gi_ne (by omega), (cn_in (hw'.1 _ (List.getElem_mem hi))).2, gi_si]
      by_cases w1 : i = l.length
      · subst w1
        rw [gb hi, if_pos ⟨rfl, rfl, rfl⟩, if_neg (by have := hw.2.2.2; omega), e, List.getD_eq_getElem?_getD, List.getElem?_append_left hk, List.getElem?_eq_getElem hk]
        rfl
      · have hi2 : i < l.length := by omega
        rw [ga i hi2, if_neg (fun y => hn i hi2 (cnN_inj (hw.1 _ (List.getElem_mem hi2)) hc y.2.2))]
        have m := hm i hi2
        rw [(cn_in (hw.1 _ (List.getElem_mem hi2))).2] at m
        rw [m]
        by_cases i0 : i = 0
        · rw [if_pos i0, if_pos i0]
        · have pk := (hw.2.2.1 i hi2 (by omega)).1
          rw [if_neg i0, if_neg i0, List.getD_eq_getElem?_getD, List.getD_eq_getElem?_getD, List.getElem?_append_left (by omega)]
