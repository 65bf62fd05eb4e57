/-! PURE: LAWS, as lists of codes; a code: an INT (0 or more), a VAR (-1 .. -9), a sign (-10 + - * / : -10 .. -13) -/
/-- one code works on the stack (its top first) -/
def ev1 (v : Nat → Int32) (c : Int32) (st : List Int32) : Option (List Int32) :=
  if -10 < c.toInt then some ((if 0 ≤ c.toInt then c else v (-1 - c.toInt).toNat) :: st) else match st with
    | b :: a :: st => if c = -10 then some ((a + b) :: st) else if c = -11 then some ((a - b) :: st) else if c = -12 then some ((a * b) :: st) else if b = 0 then none else some ((a / b) :: st)
    | _ => none
def evs (v : Nat → Int32) : List Int32 → List Int32 → Option (List Int32)
  | [], st => some st
  | c :: l, st => match ev1 v c st with
    | none => none
    | some st' => evs v l st'
/-- how high the stack stands behind the codes; none: one of them finds too little, or it goes beyond M -/
def hts (M : Nat) : List Int32 → Nat → Option Nat
  | [], h => some h
  | c :: l, h => if -10 < c.toInt then (if h < M then hts M l (h + 1) else none) else if 2 ≤ h then hts M l (h - 1) else none
/-- a code that may stand in a LAW -/
def cdok (c : Int32) : Prop := -13 ≤ c.toInt
/-- codes of an E -/
def eok (l : List Int32) : Prop := hts 15 l 0 = some 1 ∧ ∀ c ∈ l, cdok c
/-- the value of an E; none: something is divided by 0 -/
def evE (v : Nat → Int32) (l : List Int32) : Option Int32 := match evs v l [] with
  | some (x :: _) => some x
  | _ => none
abbrev Br : Type := List Int32 × List Int32 × List Int32
/-- a LAW: branches (less, than, then), the last E -/
def lawE (v : Nat → Int32) : List Br → List Int32 → Int32
  | [], l => (evE v l).getD 0
  | b :: bs, l => match evE v b.1, evE v b.2.1 with
    | some x, some y => if x < y then (evE v b.2.2).getD 0 else lawE v bs l
    | _, _ => 0
theorem nn_m1 {a : Nat} (h : 1 ≤ a) : nI a + (-1) = nI (a - 1) := by
  rw [show nI a + (-1) = nI a - nI 1 by rw [Int32.sub_eq_add_neg]; rfl, nn_sub h]
/-- all is as it was but one array -/
def agr (c0 i0 : Nat) (μ μ' : Mm) : Prop := (∀ c i j, ¬ (c = c0 ∧ i = i0) → gi μ' c i j = gi μ c i j) ∧ ∀ c i j, gj μ' c i j = gj μ c i j
theorem agr_rfl {c0 i0 : Nat} {μ : Mm} : agr c0 i0 μ μ := ⟨fun _ _ _ _ => rfl, fun _ _ _ => rfl⟩
theorem agr_tr {c0 i0 : Nat} {μ μ' μ'' : Mm} (h : agr c0 i0 μ μ') (h' : agr c0 i0 μ' μ'') : agr c0 i0 μ μ'' :=
  ⟨fun c i j q => (h'.1 c i j q).trans (h.1 c i j q), fun c i j => (h'.2 c i j).trans (h.2 c i j)⟩
theorem agr_si {c0 i0 j : Nat} {μ : Mm} {v : Int32} : agr c0 i0 μ (si μ c0 i0 j v) := ⟨fun c i j q => by
  rw [gi_si, if_neg]
  exact fun w => q ⟨w.1, w.2.1⟩, fun _ _ _ => rfl⟩
/-- the stack lies in an array, its top first in the list -/
def stk (μ : Mm) (c i : Nat) (st : List Int32) : Prop := ∀ k, (h : k < st.length) → gi μ c i (st.length - 1 - k) = st[k]
theorem stk_push {μ : Mm} {c i : Nat} {st : List Int32} {x : Int32} (h : stk μ c i st) : stk (si μ c i st.length x) c i (x :: st) := by
  intro k hk
  rw [gi_si]
  simp only [List.length_cons] at hk ⊢
  by_cases h0 : k = 0
  · subst h0
    rw [if_pos (by simp)]
    rfl
  · obtain ⟨j, rfl⟩ : ∃ j, k = j + 1 := ⟨k - 1, by omega⟩
    rw [if_neg (by omega), show st.length + 1 - 1 - (j + 1) = st.length - 1 - j by omega]
    exact h j (by omega)
theorem stk_pop {μ : Mm} {c i : Nat} {st : List Int32} {x : Int32} (h : stk μ c i (x :: st)) : stk μ c i st := by
  intro k hk
  have h1 := h (k + 1) (by simp; omega)
  simp only [List.length_cons] at h1
  rw [show st.length - 1 - k = st.length + 1 - 1 - (k + 1) by omega]
  exact h1
theorem stk_top {μ : Mm} {c i : Nat} {st : List Int32} {x : Int32} (h : stk μ c i (x :: st)) : gi μ c i st.length = x := by
  have h1 := h 0 (by simp)
  simp only [List.length_cons] at h1
  exact h1
theorem stk_two {μ : Mm} {c i : Nat} {st : List Int32} {x y : Int32} (h : stk μ c i (x :: y :: st)) : gi μ c i st.length = y := stk_top (stk_pop h)
theorem stk_op {μ : Mm} {c i : Nat} {st : List Int32} {x y z : Int32} (h : stk μ c i (x :: y :: st)) : stk (si μ c i st.length z) c i (z :: st) := stk_push (stk_pop (stk_pop h))
def seg (μ : Mm) (c i p : Nat) (l : List Int32) : Prop := ∀ k, (h : k < l.length) → gi μ c i (p + k) = l[k]
theorem seg_tl {μ : Mm} {c i p : Nat} {x : Int32} {l : List Int32} (h : seg μ c i p (x :: l)) : seg μ c i (p + 1) l := by
  intro k hk
  have h1 := h (k + 1) (by simp; omega)
  rw [show p + 1 + k = p + (k + 1) by omega]
  exact h1
theorem seg_hd {μ : Mm} {c i p : Nat} {x : Int32} {l : List Int32} (h : seg μ c i p (x :: l)) : gi μ c i p = x := h 0 (by simp)
theorem seg_app {μ : Mm} {c i p : Nat} {l l' : List Int32} : seg μ c i p (l ++ l') ↔ seg μ c i p l ∧ seg μ c i (p + l.length) l' := by
  constructor
  · intro h
    refine ⟨fun k hk => ?_, fun k hk => ?_⟩
    · have h1 := h k (by simp; omega)
      rw [h1, List.getElem_append_left hk]
    · have h1 := h (l.length + k) (by simp; omega)
      rw [Nat.add_assoc, h1, List.getElem_append_right (by omega)]
      simp
  · intro h k hk
    by_cases h1 : k < l.length
    · rw [List.getElem_append_left h1]
      exact h.1 k h1
    · rw [List.getElem_append_right (by omega)]
      have h2 := h.2 (k - l.length) (by simp at hk; omega)
      rw [show p + l.length + (k - l.length) = p + k by omega] at h2
      exact h2
theorem seg_agr {c0 i0 : Nat} {μ μ' : Mm} (h : agr c0 i0 μ μ') {c i p : Nat} {l : List Int32} (hn : ¬ (c = c0 ∧ i = i0)) (hs : seg μ c i p l) : seg μ' c i p l := fun k hk => (h.1 c i _ hn).trans (hs k hk)
theorem cd_neg {c : Int32} (h : ¬ -10 < c.toInt) (h2 : cdok c) : c = -10 ∨ c = -11 ∨ c = -12 ∨ c = -13 := by
  unfold cdok at h2
  rcases (show c.toInt = -10 ∨ c.toInt = -11 ∨ c.toInt = -12 ∨ c.toInt = -13 by omega) with q | q | q | q
  · exact Or.inl (i_eq.mpr q)
  · exact Or.inr (Or.inl (i_eq.mpr q))
  · exact Or.inr (Or.inr (Or.inl (i_eq.mpr q)))
  · exact Or.inr (Or.inr (Or.inr (i_eq.mpr q)))
/-- the class's run over one code -/
theorem p_run1 {F T p h P : Nat} {μ : Mm} {c : Int32} {st : List Int32} {v : Nat → Int32} (hv : ∀ k, k < 9 → gi μ 39 T k = v k) (hP : gi μ 8 T 5 = nI P) (hP2 : P ≤ 408) (hp : p < P) (hc : gi μ 37 T p = c) (hc2 : cdok c) (hl : st.length = h) (hh : h < 32) (hst : stk μ 40 T st) (ht : -10 < c.toInt ∨ 2 ≤ h) : match ev1 v c st with
    | none => ∀ n, fX8_run_L8 F (n + 1) T (nI h) (nI p) μ = some (0, μ)
    | some st' => ∃ μ', agr 40 T μ μ' ∧ stk μ' 40 T st' ∧ st'.length = (if -10 < c.toInt then h + 1 else h - 1) ∧ ∀ n, fX8_run_L8 F (n + 1) T (nI h) (nI p) μ = fX8_run_L8 F n T (nI st'.length) (nI (p + 1)) μ' := by
  have hg : ¬ gi μ 8 T 5 ≤ nI p := by
    rw [hP, nn_le (by omega) (by omega)]
    omega
  have hi : inb (nI p) 408 = true := (nn_inb (by omega)).mpr (by omega)
  have e10 : (-10 : Int32).toInt = -10 := rfl
  unfold ev1
  by_cases h1 : -10 < c.toInt
  · rw [if_pos h1]
    refine ⟨si μ 40 T h (if 0 ≤ c.toInt then c else v (-1 - c.toInt).toNat), agr_si, ?_, by simp [hl, h1], fun n => ?_⟩
    · subst hl
      exact stk_push hst
    · rw [fX8_run_L8, if_neg hg, if_pos hi, nn_cl (by omega), hc, if_neg (by rw [i_le, e10]; omega), if_pos (by rw [show (32 : Int32) = nI 32 from rfl, nn_lt (by omega) (by decide)]; exact hh), List.length_cons, hl]
      have h32 : inb (nI h) 32 = true := (nn_inb (by omega)).mpr hh
      by_cases h2 : 0 ≤ c.toInt
      · rw [if_neg (by rw [i_lt, z0]; omega), if_pos h2]
        unfold fX8_run_L66 fX8_run_L190
        rw [if_pos h32, nn_cl (by omega)]
        show fX8_run_L8 F n T (nI h + 1) (nI p + 1) _ = _
        rw [nn_s, nn_s]
      · rw [if_pos (by rw [i_lt, z0]; omega), if_neg h2]
        have h3 : (-1 - c).toInt = -1 - c.toInt := by
          rw [tz_sub (by rw [show (-1 : Int32).toInt = -1 from rfl]; omega)]
          rfl
        have h4 : (-1 - c).toNatClampNeg = (-1 - c.toInt).toNat := by
          unfold Int32.toNatClampNeg
          rw [h3]
        rw [if_pos (by rw [i_inb, h3]; omega), h4, hv _ (by omega)]
        unfold fX8_run_L66 fX8_run_L190
        rw [if_pos h32, nn_cl (by omega)]
        show fX8_run_L8 F n T (nI h + 1) (nI p + 1) _ = _
        rw [nn_s, nn_s]
  · rw [if_neg h1]
    have ht2 : 2 ≤ h := by omega
    obtain ⟨b, a, st2, rfl⟩ : ∃ b a st2, st = b :: a :: st2 := by
      match st, hl with
      | [], hl => simp at hl; omega
      | [_], hl => simp at hl; omega
      | b :: a :: st2, _ => exact ⟨b, a, st2, rfl⟩
    simp only [List.length_cons] at hl
    have hb := stk_top hst
    simp only [List.length_cons] at hb
    have ha := stk_two hst
    have e1 : nI h - 1 = nI (h - 1) := by rw [show (1 : Int32) = nI 1 from rfl, nn_sub (by omega)]
    have e2 : nI h - 2 = nI (h - 2) := by rw [show (2 : Int32) = nI 2 from rfl, nn_sub (by omega)]
    have e3 : nI h + (-1) - 1 = nI (h - 2) := by rw [nn_m1 (by omega), show (1 : Int32) = nI 1 from rfl, nn_sub (by omega)]; rfl
    have w : ∀ n, fX8_run_L8 F (n + 1) T (nI h) (nI p) μ = if c = -13 then (if b = 0 then some (0, μ) else fX8_run_L170 F (fun v0 v2 v3 μ => fX8_run_L8 F n v0 v2 v3 μ) T (nI h) (nI p) c a b μ) else fX8_run_L170 F (fun v0 v2 v3 μ => fX8_run_L8 F n v0 v2 v3 μ) T (nI h) (nI p) c a b μ := fun n => by
      rw [fX8_run_L8, if_neg hg, if_pos hi, nn_cl (by omega), hc, if_pos (by rw [i_le, e10]; omega)]
      have n15 : ¬ c = -15 := fun q => by
        unfold cdok at hc2
        rw [q] at hc2
        exact absurd hc2 (by decide)
      have n14 : ¬ c = -14 := fun q => by
        unfold cdok at hc2
        rw [q] at hc2
        exact absurd hc2 (by decide)
      rw [if_neg n15, if_pos (by rw [show (2 : Int32) = nI 2 from rfl, nn_le (by decide) (by omega)]; omega), e1, e2, if_pos ((nn_inb (by omega)).mpr (by omega)), if_pos ((nn_inb (by omega)).mpr (by omega)), if_neg n14, nn_cl (by omega), nn_cl (by omega), show h - 1 = st2.length + 1 by omega, hb, show h - 2 = st2.length by omega, ha]
    have u : ∀ (x : Int32) (n : Nat), (fX8_work F c a b μ = some (x, μ)) → fX8_run_L170 F (fun v0 v2 v3 μ => fX8_run_L8 F n v0 v2 v3 μ) T (nI h) (nI p) c a b μ = fX8_run_L8 F n T (nI (x :: st2).length) (nI (p + 1)) (si μ 40 T st2.length x) := fun x n hx => by
      unfold fX8_run_L170 fX8_run_L190
      rw [hx, bd2_s, e3, if_pos ((nn_inb (by omega)).mpr (by omega)), nn_cl (by omega), nn_m1 (by omega), show h - 2 = st2.length by omega, show h - 1 = (x :: st2).length by simp; omega]
      show fX8_run_L8 F n T _ (nI p + 1) _ = _
      rw [nn_s]
    have fin : ∀ x : Int32, (∀ n, fX8_run_L8 F (n + 1) T (nI h) (nI p) μ = fX8_run_L8 F n T (nI (x :: st2).length) (nI (p + 1)) (si μ 40 T st2.length x)) → ∃ μ', agr 40 T μ μ' ∧ stk μ' 40 T (x :: st2) ∧ (x :: st2).length = (if -10 < c.toInt then h + 1 else h - 1) ∧ ∀ n, fX8_run_L8 F (n + 1) T (nI h) (nI p) μ = fX8_run_L8 F n T (nI (x :: st2).length) (nI (p + 1)) μ' := fun x hx =>
      ⟨_, agr_si, stk_op hst, by rw [if_neg h1]; simp; omega, hx⟩
    rcases cd_neg h1 hc2 with q | q | q | q
    · subst q
      exact fin (a + b) (fun n => (w n).trans (u (a + b) n rfl))
    · subst q
      exact fin (a - b) (fun n => (w n).trans (u (a - b) n rfl))
    · subst q
      exact fin (a * b) (fun n => (w n).trans (u (a * b) n rfl))
    · subst q
      by_cases hb0 : b = 0
      · subst hb0
        exact fun n => (w n).trans rfl
      · show match (if b = 0 then none else some ((a / b) :: st2)) with
          | none => _
          | some st' => _
        rw [if_neg hb0]
        refine fin (a / b) (fun n => (w n).trans ?_)
        rw [if_pos rfl, if_neg hb0]
        refine u (a / b) n ?_
        unfold fX8_work
        rw [if_neg (by decide), if_neg (by decide), if_neg (by decide), if_neg hb0, if_neg hb0]
