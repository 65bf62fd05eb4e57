/-! PURE: read, rows of MOVES while a number may still be WRONG -/
def mvw (w : Int32 × Int32) : Prop := w.1 = 2 ∨ ((w.1 = 0 ∨ w.1 = 1) ∧ 0 ≤ w.2.toInt ∧ w.2.toInt ≤ 9999)
theorem tw_toIntW {w : Int32 × Int32} {t : Tg} (hw : mvw w) (h2 : ¬ w.1 = 2) (ht : tV t) : (twS w t).toInt = (if w.1 = 0 then t.1.toInt + w.2.toInt * t.2.toInt else t.1.toInt - w.2.toInt * t.2.toInt) ∧ 0 ≤ w.2.toInt * t.2.toInt ∧ w.2.toInt * t.2.toInt ≤ 989901 := by
  obtain ⟨a1, a2, a3, a4, a5, a6⟩ := ht
  have hk : 0 ≤ w.2.toInt ∧ w.2.toInt ≤ 9999 := by
    rcases hw with q | ⟨_, q⟩
    · exact absurd q h2
    · exact q
  have b1 : 0 ≤ w.2.toInt * t.2.toInt := Int.mul_nonneg (by omega) a3
  have b2 : w.2.toInt * t.2.toInt ≤ 9999 * 99 := Int.mul_le_mul hk.2 a4 a3 (by decide)
  have b3 : (w.2 * t.2).toInt = w.2.toInt * t.2.toInt := tz_mul (by omega)
  refine ⟨?_, b1, by omega⟩
  unfold twS
  split
  · rw [tz_add (by rw [b3]; omega), b3]
  · rw [tz_sub (by rw [b3]; omega), b3]
theorem tV_mk1W {w : Int32 × Int32} {t u : Tg} (hw : mvw w) (ht : tV t) (h : mk1 w t = some u) : tV u := by
  unfold mk1 at h
  have ht' := ht
  obtain ⟨a1, a2, a3, a4, a5, a6⟩ := ht
  split at h
  · cases h
    unfold tnS
    have n2 : (-t.2).toInt = -t.2.toInt := tz_neg (by omega)
    have n1 : (-t.1).toInt = -t.1.toInt := tz_neg (by omega)
    split
    · refine ⟨by show -99 ≤ t.2.toInt; omega, a4, by show 0 ≤ (-t.1).toInt; omega, by show (-t.1).toInt ≤ 99; omega, ?_, fun q => by
        have q' : (-t.1).toInt = 0 := q
        omega⟩
      show Nat.gcd t.2.toInt.natAbs (-t.1).toInt.natAbs = 1
      rw [n1, Int.natAbs_neg, Nat.gcd_comm]
      exact a5
    · split
      · refine ⟨by show -99 ≤ (-t.2).toInt; omega, by show (-t.2).toInt ≤ 99; omega, by show 0 ≤ t.1.toInt; omega, a2, ?_, fun q => by
          have q' : t.1.toInt = 0 := q
          omega⟩
        show Nat.gcd (-t.2).toInt.natAbs t.1.toInt.natAbs = 1
        rw [n2, Int.natAbs_neg, Nat.gcd_comm]
        exact a5
      · exact ⟨by decide, by decide, by decide, by decide, (by unfold gcd1; decide), fun _ => by decide⟩
  · rename_i hn
    split at h
    · rename_i hb
      cases h
      have e := (tw_toIntW hw hn ht').1
      refine ⟨hb.1, hb.2, a3, a4, ?_, fun q => ?_⟩
      · show Nat.gcd (twS w t).toInt.natAbs t.2.toInt.natAbs = 1
        rw [e]
        split
        · rw [gcd_add_mul]
          exact a5
        · rw [show t.1.toInt - w.2.toInt * t.2.toInt = t.1.toInt + (-w.2.toInt) * t.2.toInt by rw [Int.neg_mul]; omega, gcd_add_mul]
          exact a5
      · show (twS w t).toInt = 1
        have q' : t.2.toInt = 0 := q
        have h6 := a6 q'
        rw [e, q', h6]
        split <;> simp
    · cases h
theorem p_makes1W {F : Nat} {μ : Mm} {i : Nat} {w : Int32 × Int32} (hw : mvw w) (ht : tV (tgC μ i)) : fX5_makes F i w.1 w.2 μ = match mk1 w (tgC μ i) with
    | some t => some (1, pt μ i t)
    | none => some (0, μ) := by
  unfold fX5_makes mk1
  by_cases h2 : w.1 = 2
  · rw [if_pos h2, if_pos h2]
    unfold fX5_turn tnS
    by_cases hp : 0 ≤ (gi μ 5 i 0).toInt
    · rw [if_pos (i_0le.mpr hp), if_neg (show ¬ (tgC μ i).1.toInt < 0 from fun q => absurd q (Int.not_lt.mpr hp))]
      by_cases hp2 : (gi μ 5 i 0).toInt ≤ 0
      · rw [if_pos (i_le0.mpr hp2), if_neg (show ¬ 0 < (tgC μ i).1.toInt from fun q => absurd q (Int.not_lt.mpr hp2))]
        rfl
      · rw [if_neg (fun q => hp2 (i_le0.mp q)), if_pos (show 0 < (tgC μ i).1.toInt from Int.not_le.mp hp2)]
        rfl
    · rw [if_neg (fun q => hp (i_0le.mp q)), if_pos (show (tgC μ i).1.toInt < 0 from Int.not_le.mp hp)]
      rfl
  · rw [if_neg h2, if_neg h2]
    have key : ∀ x : Int32, twS w (tgC μ i) = x → fX5_makes_L40 F i x μ = match (if -99 ≤ (twS w (tgC μ i)).toInt ∧ (twS w (tgC μ i)).toInt ≤ 99 then some (twS w (tgC μ i), (tgC μ i).2) else none) with
        | some t => some (1, pt μ i t)
        | none => some (0, μ) := fun x hx => by
      unfold fX5_makes_L40 fX5_isTangle
      rw [hx]
      simp only [i_lt, show (-99 : Int32).toInt = -99 from rfl, show (99 : Int32).toInt = 99 from rfl]
      by_cases h3 : x.toInt < -99
      · rw [if_pos h3, if_neg (by omega), bd2_s, if_pos rfl]
      · rw [if_neg h3]
        by_cases h4 : 99 < x.toInt
        · rw [if_pos h4, if_neg (by omega), bd2_s, if_pos rfl]
        · rw [if_neg h4, if_pos (by omega), bd2_s, if_neg (by decide)]
          show some (1, si μ 5 i 0 x) = some (1, pt μ i (x, gi μ 5 i 1))
          rw [pt_q]
    by_cases h0 : w.1 = 0
    · rw [if_pos h0]
      exact key _ (by unfold twS; rw [if_pos h0]; rfl)
    · rw [if_neg h0]
      exact key _ (by unfold twS; rw [if_neg h0]; rfl)
theorem p_madeByW {F : Nat} {ν : Mm} {t : Tg} {w : Int32 × Int32} (hw : mvw w) (ht : tV t) : fX12_madeBy F (enc t) w.1 w.2 ν = match mk1 w t with
    | some u => some (enc u, ν)
    | none => some (-1, ν) := by
  have ht' := ht
  obtain ⟨a1, a2, a3, a4, a5, a6⟩ := ht'
  unfold fX12_madeBy
  rw [p_over ht, bd2_s, p_under ht, bd2_s]
  unfold mk1
  by_cases h2 : w.1 = 2
  · rw [if_pos h2, if_pos h2]
    unfold tnS
    by_cases hq : t.2.toInt = 0
    · rw [if_pos (i_eq.mpr hq)]
      have h1 := a6 hq
      have e1 : t.1 = 1 := i_eq.mpr h1
      have e2 : t.2 = 0 := i_eq.mpr hq
      rw [if_neg (by omega), if_pos (by omega)]
      show some (300, ν) = some (enc (-t.2, t.1), ν)
      rw [e1, e2]
      rfl
    · rw [if_neg (fun q => hq (i_eq.mp q))]
      by_cases hp : t.1.toInt = 0
      · rw [if_pos (i_eq.mpr hp), if_neg (by omega), if_neg (by omega)]
        rfl
      · rw [if_neg (fun q => hp (i_eq.mp q))]
        by_cases hp2 : t.1.toInt ≤ 0
        · rw [if_pos (i_le.mpr hp2), if_pos (by omega)]
          rfl
        · rw [if_neg (fun q => hp2 (i_le.mp q)), if_neg (by omega), if_pos (by omega)]
          rfl
  · rw [if_neg h2, if_neg h2]
    have e := tw_toIntW hw h2 ht
    have key : ∀ x : Int32, twS w t = x → fX12_madeBy_L82 F t.2 x ν = match (if -99 ≤ (twS w t).toInt ∧ (twS w t).toInt ≤ 99 then some (twS w t, t.2) else none) with
        | some u => some (enc u, ν)
        | none => some (-1, ν) := fun x hx => by
      have hb : -1000000 < x.toInt ∧ x.toInt < 1000000 := by
        rw [← hx]
        have e1 := e.1
        split at e1 <;> omega
      unfold fX12_madeBy_L82
      rw [hx, p_off (by omega), bd2_s]
      have h9 : ab x ≤ 99 ↔ x.toInt.natAbs ≤ 99 := by
        rw [nn_ab (by omega), i_le, nI_toInt (by omega), show (99 : Int32).toInt = 99 from rfl]
        omega
      by_cases h3 : -99 ≤ x.toInt ∧ x.toInt ≤ 99
      · rw [if_pos (h9.mpr (by omega)), if_pos h3]
        rfl
      · rw [if_neg (fun q => by have := h9.mp q; omega), if_neg h3]
    by_cases hq : t.2 = 0
    · rw [if_pos hq]
      have hq' : t.2.toInt = 0 := i_eq.mp hq
      have h1 := a6 hq'
      have e1 := e.1
      have e3 : (twS w t).toInt = 1 := by
        rw [e1, hq', h1]
        split <;> simp
      rw [if_pos (by omega)]
      have e4 : twS w t = t.1 := i_eq.mpr (by omega)
      rw [e4]
    · rw [if_neg hq]
      by_cases h0 : w.1 = 0
      · rw [if_pos h0]
        exact key _ (by unfold twS; rw [if_pos h0])
      · rw [if_neg h0]
        exact key _ (by unfold twS; rw [if_neg h0])
def mkl : List (Int32 × Int32) → Tg → Option Tg
  | [], t => some t
  | w :: l, t => match mk1 w t with
    | none => none
    | some u => mkl l u
theorem mkl_c {w : Int32 × Int32} {l : List (Int32 × Int32)} {t : Tg} : mkl (w :: l) t = match mk1 w t with
    | none => none
    | some u => mkl l u := rfl
theorem tV_mkl : ∀ (l : List (Int32 × Int32)) (t u : Tg), (∀ w ∈ l, mvw w) → tV t → mkl l t = some u → tV u
  | [], t, u, _, h, e => by
    cases e
    exact h
  | w :: l, t, u, hm, h, e => by
    rw [mkl_c] at e
    cases e1 : mk1 w t with
    | none =>
      rw [e1] at e
      cases e
    | some v =>
      rw [e1] at e
      exact tV_mkl l v u (fun z hz => hm z (List.mem_cons_of_mem _ hz)) (tV_mk1W (hm w List.mem_cons_self) h e1) e
theorem mkl_snoc {w : Int32 × Int32} : ∀ (l : List (Int32 × Int32)) (t : Tg), mkl (l ++ [w]) t = match mkl l t with
    | none => none
    | some u => mk1 w u
  | [], t => by
    show (match mk1 w t with
      | none => none
      | some u => some u) = mk1 w t
    cases mk1 w t <;> rfl
  | v :: l, t => by
    show (match mk1 v t with
      | none => none
      | some u => mkl (l ++ [w]) u) = _
    rw [mkl_c]
    cases mk1 v t with
    | none => rfl
    | some u => exact mkl_snoc l u
/-- a row of the class -/
def RwC (μ : Mm) (r : Nat) (ms : List (Int32 × Int32)) : Prop := gi μ 3 r 0 = nI ms.length ∧ ms.length ≤ 8 ∧ (∀ j, (h : j < ms.length) → gi μ 25 r j = (ms[j]).1 ∧ gi μ 26 r j = (ms[j]).2) ∧ tbC μ r = ms.foldl (fun t w => tb1 w t) tb0
def FRw (r : Nat) (c i _ : Nat) : Prop := (c = 3 ∨ c = 25 ∨ c = 26 ∨ c = 6) ∧ i = r
theorem RwC_fr {P : Nat → Nat → Nat → Prop} {Q : Nat → Prop} {r : Nat} {ms : List (Int32 × Int32)} {μ μ' : Mm} (h : fr P Q μ μ') (hp : ∀ c j, (c = 3 ∨ c = 25 ∨ c = 26 ∨ c = 6) → ¬ P c r j) (q : RwC μ r ms) : RwC μ' r ms := by
  obtain ⟨a1, a2, a3, a4⟩ := q
  refine ⟨(fr_n h (hp _ _ (by omega))).trans a1, a2, fun j hj => ⟨(fr_n h (hp _ _ (by omega))).trans (a3 j hj).1, (fr_n h (hp _ _ (by omega))).trans (a3 j hj).2⟩, ?_⟩
  rw [← a4]
  unfold tbC
  rw [fr_n h (hp _ _ (by omega)), fr_n h (hp _ _ (by omega)), fr_n h (hp _ _ (by omega)), fr_n h (hp _ _ (by omega))]
theorem p_makesW {F r i N : Nat} (hN : N ≤ 8) : ∀ (l : List (Int32 × Int32)) (n j : Nat) (μ : Mm), j + l.length = N → l.length < n → (∀ z, (h : z < l.length) → gi μ 25 r (j + z) = (l[z]).1 ∧ gi μ 26 r (j + z) = (l[z]).2) → (∀ w ∈ l, mvw w) → tV (tgC μ i) → ∃ t', fX3_makes_L12 F n r i (nI N) (nI j) μ = some (b01 (mkl l (tgC μ i)).isSome, pt μ i t') ∧ ∀ u, mkl l (tgC μ i) = some u → t' = u
  | l, 0, _, _, _, h, _, _, _ => absurd h (Nat.not_lt_zero _)
  | [], n + 1, j, μ, h1, h2, hμ, hm, hv => by
    rw [fX3_makes_L12, if_pos (by simp only [List.length_nil] at h1; rw [nn_le (by omega) (by omega)]; omega)]
    refine ⟨tgC μ i, ?_, fun u e => ?_⟩
    · show some (1, μ) = some (1, pt μ i (tgC μ i))
      rw [pt_same]
    · cases e
      rfl
  | w :: l, n + 1, j, μ, h1, h2, hμ, hm, hv => by
    simp only [List.length_cons] at h1 h2
    have h0 := hμ 0 (by simp)
    have hw := hm w List.mem_cons_self
    have e25 : gi μ 25 r j = w.1 := h0.1
    have e26 : gi μ 26 r j = w.2 := h0.2
    rw [fX3_makes_L12, if_neg (by rw [nn_le (by omega) (by omega)]; omega), if_pos ((nn_inb (by omega)).mpr (by omega)), nn_cl (by omega), e25, e26, p_makes1W hw hv, mkl_c]
    cases e : mk1 w (tgC μ i) with
    | none =>
      rw [bd2_s, if_pos rfl]
      refine ⟨tgC μ i, ?_, fun u e => by cases e⟩
      show some (0, μ) = some (0, pt μ i (tgC μ i))
      rw [pt_same]
    | some u =>
      rw [bd2_s, if_neg (by decide), nn_s]
      obtain ⟨t', r1, r2⟩ := p_makesW (F := F) (r := r) (i := i) hN l n (j + 1) (pt μ i u) (by omega) (by omega) (fun z hz => by
        have q := hμ (z + 1) (by simp; omega)
        rw [show j + (z + 1) = j + 1 + z by omega] at q
        have e5 : gi (pt μ i u) 25 r (j + 1 + z) = gi μ 25 r (j + 1 + z) := by simp [pt, gi_si]
        have e6 : gi (pt μ i u) 26 r (j + 1 + z) = gi μ 26 r (j + 1 + z) := by simp [pt, gi_si]
        rw [e5, e6]
        exact q) (fun z hz => hm z (List.mem_cons_of_mem _ hz)) (by rw [tgC_pt]; exact tV_mk1W hw hv e)
      rw [tgC_pt] at r1 r2
      rw [pt_pt] at r1
      exact ⟨t', r1, r2⟩
theorem p_makesX {F r i : Nat} {ms : List (Int32 × Int32)} {a : Int32} {μ : Mm} (hF : 1000 ≤ F) (h : RwC μ r ms) (ha : mn a (nI ms.length) = nI ms.length) (hm : ∀ w ∈ ms, mvw w) (hv : tV (tgC μ i)) : ∃ t', fX3_makes F r i a μ = some (b01 (mkl ms (tgC μ i)).isSome, pt μ i t') ∧ ∀ u, mkl ms (tgC μ i) = some u → t' = u := by
  unfold fX3_makes
  rw [h.1, ha]
  exact p_makesW h.2.1 ms F 0 μ (by omega) (by have := h.2.1; omega) (fun z hz => by rw [Nat.zero_add]; exact h.2.2.1 z hz) hm hv
theorem p_addRow {F r : Nat} {ms : List (Int32 × Int32)} {w k : Int32} {μ : Mm} (h : RwC μ r ms) (h8 : ms.length < 8) : ∃ μ', fX3_add F r w k μ = some μ' ∧ fr (FRw r) Q7 μ μ' ∧ gj μ' 7 0 5 = gj μ 7 0 5 ∧ RwC μ' r (ms ++ [(w, k)]) := by
  obtain ⟨a1, a2, a3, a4⟩ := h
  have hin : inb (nI ms.length) 8 = true := (nn_inb (by omega)).mpr h8
  have e1 : gi (si μ 25 r ms.length w) 3 r 0 = nI ms.length := (gi_ne (by omega)).trans a1
  have e2 : gi (si (si μ 25 r ms.length w) 26 r ms.length k) 3 r 0 = nI ms.length := (gi_ne (by omega)).trans e1
  unfold fX3_add fX3_isFull
  rw [a1, if_pos (by rw [show (8 : Int32) = nI 8 from rfl, nn_lt (by omega) (by omega)]; exact h8), bd2_s, if_pos rfl, a1, if_pos hin, nn_cl (by omega), e1, if_pos hin, nn_cl (by omega), e2, nn_s]
  generalize hμ3 : si (si (si μ 25 r ms.length w) 26 r ms.length k) 3 r 0 (nI (ms.length + 1)) = μ3
  have f3 : fr (FRw r) Q7 μ μ3 := by
    rw [← hμ3]
    exact fr_tr (fr_tr (fr_si ⟨Or.inr (Or.inl rfl), rfl⟩) (fr_si ⟨Or.inr (Or.inr (Or.inl rfl)), rfl⟩)) (fr_si ⟨Or.inl rfl, rfl⟩)
  have t3 : tbC μ3 r = tbC μ r := by
    rw [← hμ3]
    unfold tbC
    simp [gi_si]
  have fin : ∀ μ', fX6_addMove F r w k μ3 = some μ' → fr (fun c i _ => c = 6 ∧ i = r) Q7 μ3 μ' → gj μ' 7 0 5 = gj μ3 7 0 5 → tbC μ' r = tb1 (w, k) (tbC μ3 r) → ∃ μ', (bd1 (fX6_addMove F r w k μ3) fun μ12 => some μ12) = some μ' ∧ fr (FRw r) Q7 μ μ' ∧ gj μ' 7 0 5 = gj μ 7 0 5 ∧ RwC μ' r (ms ++ [(w, k)]) := fun μ' q1 q2 q3 q4 => by
    rw [q1, bd1_s]
    refine ⟨μ', rfl, fr_tr f3 (fr_of q2 (fun c i j z => ⟨Or.inr (Or.inr (Or.inr z.1)), z.2⟩) (fun c z => z)), q3.trans (by rw [← hμ3]; rfl), ?_, ?_, fun j hj => ?_, ?_⟩
    · rw [fr_n q2 (by omega), ← hμ3, gi_eq, List.length_append, List.length_singleton]
    · rw [List.length_append, List.length_singleton]
      omega
    · simp only [List.length_append, List.length_cons, List.length_nil] at hj
      rw [fr_n q2 (by omega), fr_n q2 (by omega), ← hμ3]
      by_cases y : j < ms.length
      · rw [List.getElem_append_left y, gi_ne (by omega), gi_ne (by omega), gi_ne (by omega), gi_ne (by omega), gi_ne (by omega), gi_ne (by omega)]
        exact a3 j y
      · obtain rfl : j = ms.length := by omega
        rw [List.getElem_append_right (Nat.le_refl _)]
        simp only [Nat.sub_self, List.getElem_cons_zero]
        rw [gi_ne (by omega), gi_ne (by omega), gi_eq, gi_ne (by omega), gi_eq]
        exact ⟨rfl, rfl⟩
    · rw [q4, t3, a4, List.foldl_append]
      rfl
  have f6 : ∀ {μa : Mm} {j : Nat} {v : Int32}, fr (fun c i _ => c = 6 ∧ i = r) Q7 μa (si μa 6 r j v) := fr_si ⟨rfl, rfl⟩
  by_cases y : w = 2
  · refine fin _ (by unfold fX6_addMove; rw [if_pos y]) (fr_tr (fr_tr (fr_tr f6 f6) f6) f6) rfl ?_
    unfold tb1 tbC
    rw [if_pos (show (w, k).1 = 2 from y)]
    simp [gi_si]
  · by_cases z : w = 0
    · refine fin _ (by unfold fX6_addMove fX6_addMove_L58; rw [if_neg y, if_pos z]) (fr_tr f6 f6) rfl ?_
      unfold tb1 tbC
      rw [if_neg (show ¬ (w, k).1 = 2 from y), if_pos (show (w, k).1 = 0 from z)]
      simp [gi_si]
    · refine fin _ (by unfold fX6_addMove fX6_addMove_L58; rw [if_neg y, if_neg z]) (fr_tr f6 f6) rfl ?_
      unfold tb1 tbC
      rw [if_neg (show ¬ (w, k).1 = 2 from y), if_neg (show ¬ (w, k).1 = 0 from z)]
      simp [gi_si]
/-! doubts: the first place, there the least number -/
def lm (D : Int32 × Int32) (a : Int32 × Int32) : Int32 × Int32 := if D.1 = 0 then a else if a.2 < D.2 then a else if a.2 = D.2 then (if D.1 ≤ a.1 then D else a) else D
def dvd (D : Int32 × Int32) : Prop := D = (0, -1) ∨ (1 ≤ D.1.toInt ∧ D.1.toInt ≤ 7)
def dkey (D : Int32 × Int32) : Int := if D.1.toInt = 0 then 100000000000 else D.2.toInt * 8 + D.1.toInt
theorem lm_key {D a : Int32 × Int32} (hD : dvd D) (ha : 1 ≤ a.1.toInt ∧ a.1.toInt ≤ 7) : dkey (lm D a) = min (dkey D) (dkey a) ∧ (1 ≤ (lm D a).1.toInt ∧ (lm D a).1.toInt ≤ 7) := by
  have b1 := a.2.toInt_lt
  have b2 := a.2.le_toInt
  have b3 := D.2.toInt_lt
  have b4 := D.2.le_toInt
  unfold dkey lm
  rw [if_neg (c := a.1.toInt = 0) (by omega)]
  rcases hD with rfl | hD
  · rw [if_pos rfl, if_neg (by omega), if_pos (c := ((0 : Int32), (-1 : Int32)).1.toInt = 0) (by decide)]
    omega
  · rw [if_neg (c := D.1 = 0) (fun q => by rw [i_eq, z0] at q; omega), if_neg (c := D.1.toInt = 0) (by omega)]
    simp only [i_lt, i_le, i_eq]
    by_cases c1 : a.2.toInt < D.2.toInt
    · rw [if_pos c1, if_neg (by omega)]
      omega
    · rw [if_neg c1]
      by_cases c2 : a.2.toInt = D.2.toInt
      · rw [if_pos c2]
        by_cases c3 : D.1.toInt ≤ a.1.toInt
        · rw [if_pos c3, if_neg (by omega)]
          omega
        · rw [if_neg c3, if_neg (by omega)]
          omega
      · rw [if_neg c2, if_neg (by omega)]
        omega
theorem key_inj {D E : Int32 × Int32} (hD : 1 ≤ D.1.toInt ∧ D.1.toInt ≤ 7) (hE : 1 ≤ E.1.toInt ∧ E.1.toInt ≤ 7) (h : dkey D = dkey E) : D = E := by
  unfold dkey at h
  rw [if_neg (by omega), if_neg (by omega)] at h
  exact Prod.ext (i_eq.mpr (by omega)) (i_eq.mpr (by omega))
theorem lm_dvd {D a : Int32 × Int32} (hD : dvd D) (ha : 1 ≤ a.1.toInt ∧ a.1.toInt ≤ 7) : dvd (lm D a) := Or.inr (lm_key hD ha).2
theorem lm_comm {D a b : Int32 × Int32} (hD : dvd D) (ha : 1 ≤ a.1.toInt ∧ a.1.toInt ≤ 7) (hb : 1 ≤ b.1.toInt ∧ b.1.toInt ≤ 7) : lm (lm D a) b = lm (lm D b) a := by
  have k1 := lm_key hD ha
  have k2 := lm_key hD hb
  have k3 := lm_key (lm_dvd hD ha) hb
  have k4 := lm_key (lm_dvd hD hb) ha
  refine key_inj k3.2 k4.2 ?_
  rw [k3.1, k4.1, k1.1, k2.1]
  omega
theorem lm_idem {D a : Int32 × Int32} (hD : dvd D) (ha : 1 ≤ a.1.toInt ∧ a.1.toInt ≤ 7) : lm (lm D a) a = lm D a := by
  have k1 := lm_key hD ha
  have k3 := lm_key (lm_dvd hD ha) ha
  refine key_inj k3.2 k1.2 ?_
  rw [k3.1, k1.1]
  omega
theorem lm_n0 {D a : Int32 × Int32} (hD : dvd D) (ha : 1 ≤ a.1.toInt ∧ a.1.toInt ≤ 7) : (lm D a).1 ≠ 0 := fun q => by
  have := (lm_key hD ha).2
  rw [i_eq, z0] at q
  omega
/-- numbers that are WRONG, at these places -/
def lmW (D : Int32 × Int32) (ws : List Int32) : Int32 × Int32 := ws.foldl (fun D p => lm D (5, p)) D
theorem lmW_dvd : ∀ (ws : List Int32) (D : Int32 × Int32), dvd D → dvd (lmW D ws)
  | [], D, h => h
  | p :: ws, D, h => lmW_dvd ws (lm D (5, p)) (lm_dvd h (show 1 ≤ (5 : Int32).toInt ∧ (5 : Int32).toInt ≤ 7 by decide))
theorem lmW_comm {a : Int32 × Int32} (ha : 1 ≤ a.1.toInt ∧ a.1.toInt ≤ 7) : ∀ (ws : List Int32) (D : Int32 × Int32), dvd D → lmW (lm D a) ws = lm (lmW D ws) a
  | [], D, h => rfl
  | p :: ws, D, h => by
    have h5 : 1 ≤ ((5, p) : Int32 × Int32).1.toInt ∧ ((5, p) : Int32 × Int32).1.toInt ≤ 7 := show 1 ≤ (5 : Int32).toInt ∧ (5 : Int32).toInt ≤ 7 by decide
    show lmW (lm (lm D a) (5, p)) ws = lm (lmW (lm D (5, p)) ws) a
    rw [lm_comm h ha h5]
    exact lmW_comm ha ws _ (lm_dvd h h5)
theorem lmW_n0 : ∀ (ws : List Int32) (D : Int32 × Int32), dvd D → (lmW D ws).1 = 0 → ws = [] ∧ D.1 = 0
  | [], D, h, e => ⟨rfl, e⟩
  | p :: ws, D, h, e => by
    have h5 : 1 ≤ ((5, p) : Int32 × Int32).1.toInt ∧ ((5, p) : Int32 × Int32).1.toInt ≤ 7 := show 1 ≤ (5 : Int32).toInt ∧ (5 : Int32).toInt ≤ 7 by decide
    exact absurd (lmW_n0 ws (lm D (5, p)) (lm_dvd h h5) e).2 (lm_n0 h h5)
/-- MOVES as both read them -/
def mvg (K : Nat → Tk) : Nat → Nat → Sum (Int32 × Int32) (Nat × List (Int32 × Int32) × List Int32)
  | 0, t => if 7 ≤ tkd K t ∧ tkd K t ≤ 9 then Sum.inl (2, pl K t) else Sum.inr (t, [], [])
  | n + 1, t => if 7 ≤ tkd K t ∧ tkd K t ≤ 9 then (sbd (adv K t (tkd K t)) fun t1 => if tkd K t = 9 then (sbd (mvg K n t1) fun r => Sum.inr (r.1, (2, 0) :: r.2.1, r.2.2)) else (sbd (adv K t1 23) fun t2 => sbd (mvg K n t2) fun r => Sum.inr (r.1, (nI (tkd K t - 7), (K t1).2.2.1) :: r.2.1, (if (K t1).2.2.1 < 1 ∨ 9 < (K t1).2.2.1 then pl K t1 :: r.2.2 else r.2.2)))) else Sum.inr (t, [], [])
theorem mvg_ok {K : Nat → Tk} (hv : ∀ t, (K t).1 = 23 → ∃ n, n < 10000 ∧ (K t).2.2.1 = nI n) : ∀ (n t : Nat) (r : Nat × List (Int32 × Int32) × List Int32), mvg K n t = Sum.inr r → (∀ w ∈ r.2.1, mvw w) ∧ (r.2.2 = [] → ∀ w ∈ r.2.1, mvok w) ∧ r.2.1.length ≤ n ∧ t ≤ r.1
  | 0, t, r, e => by
    unfold mvg at e
    split at e
    · cases e
    · injection e with e
      subst e
      exact ⟨fun w h => absurd h List.not_mem_nil, fun _ w h => absurd h List.not_mem_nil, Nat.le_refl _, Nat.le_refl _⟩
  | n + 1, t, r, e => by
    unfold mvg at e
    split at e
    · rename_i hk
      cases h1 : adv K t (tkd K t) with
      | inl q =>
        rw [h1] at e
        cases e
      | inr t1 =>
        rw [h1, sbd_r] at e
        obtain ⟨rfl, _, _⟩ := adv_r h1
        split at e
        · cases h2 : mvg K n (t + 1) with
          | inl q =>
            rw [h2] at e
            cases e
          | inr s =>
            rw [h2, sbd_r] at e
            injection e with e
            subst e
            obtain ⟨c1, c2, c3, c4⟩ := mvg_ok hv n (t + 1) s h2
            refine ⟨fun w hw => ?_, fun hn w hw => ?_, by show s.2.1.length + 1 ≤ n + 1; omega, by show t ≤ s.1; omega⟩
            · rcases List.mem_cons.mp hw with q | q
              · rw [q]
                exact Or.inl rfl
              · exact c1 w q
            · rcases List.mem_cons.mp hw with q | q
              · rw [q]
                exact Or.inl rfl
              · exact c2 hn w q
        · rename_i k9
          cases h2 : adv K (t + 1) 23 with
          | inl q =>
            rw [h2] at e
            cases e
          | inr t2 =>
            rw [h2, sbd_r] at e
            obtain ⟨rfl, _, k23⟩ := adv_r h2
            cases h3 : mvg K n (t + 1 + 1) with
            | inl q =>
              rw [h3] at e
              cases e
            | inr s =>
              rw [h3, sbd_r] at e
              injection e with e
              subst e
              obtain ⟨c1, c2, c3, c4⟩ := mvg_ok hv n (t + 1 + 1) s h3
              obtain ⟨v, hv1, ev⟩ := hv (t + 1) k23
              have k01 : (nI (tkd K t - 7) = 0 ∨ nI (tkd K t - 7) = 1) := by
                rcases (show tkd K t = 7 ∨ tkd K t = 8 by omega) with q | q
                · rw [q]
                  exact Or.inl rfl
                · rw [q]
                  exact Or.inr rfl
              refine ⟨fun w hw => ?_, fun hn w hw => ?_, by show s.2.1.length + 1 ≤ n + 1; omega, by show t ≤ s.1; omega⟩
              · rcases List.mem_cons.mp hw with q | q
                · rw [q]
                  refine Or.inr ⟨k01, ?_⟩
                  show 0 ≤ (K (t + 1)).2.2.1.toInt ∧ (K (t + 1)).2.2.1.toInt ≤ 9999
                  rw [ev, nI_toInt (by omega)]
                  omega
                · exact c1 w q
              · have hn' : (if (K (t + 1)).2.2.1 < 1 ∨ 9 < (K (t + 1)).2.2.1 then pl K (t + 1) :: s.2.2 else s.2.2) = [] := hn
                split at hn'
                · cases hn'
                · rename_i nw
                  rcases List.mem_cons.mp hw with q | q
                  · rw [q]
                    refine Or.inr ⟨k01, ?_⟩
                    show 1 ≤ (K (t + 1)).2.2.1.toInt ∧ (K (t + 1)).2.2.1.toInt ≤ 9
                    rw [ev, show (1 : Int32) = nI 1 from rfl, show (9 : Int32) = nI 9 from rfl, nn_lt (by omega) (by omega), nn_lt (by omega) (by omega)] at nw
                    rw [ev, nI_toInt (by omega)]
                    omega
                  · exact c2 hn' w q
    · injection e with e
      subst e
      exact ⟨fun w h => absurd h List.not_mem_nil, fun _ w h => absurd h List.not_mem_nil, Nat.zero_le _, Nat.le_refl _⟩
