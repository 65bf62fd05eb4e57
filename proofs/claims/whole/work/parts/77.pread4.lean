/-! PURE: read, an E as both read it -/
def pl (K : Nat → Tk) (t : Nat) : Int32 := (K t).2.1
def tkd (K : Nat → Tk) (t : Nat) : Nat := (K t).1
/-- one TOKEN of kind k is taken -/
def adv (K : Nat → Tk) (t k : Nat) : Sum (Int32 × Int32) Nat := if tkd K t = k then (if t = 400 then Sum.inl (2, pl K t) else Sum.inr (t + 1)) else Sum.inl (1, pl K t)
def scd (w : Nat) : Int32 := (-10) - (nI w - 26)
def relS (s : Bool) : List Nat → List Int32 → List Nat × List Int32
  | [], o => ([], o)
  | w :: W, o => if w = 31 ∨ (s = true ∧ w < 28) then (w :: W, o) else relS s W (o ++ [scd w])
def exg (K : Nat → Tk) : Nat → Nat → Bool → List Nat → Nat → List Int32 → Sum (Int32 × Int32) (Nat × List Int32)
  | 0, t, _, _, _, _ => Sum.inl (1, pl K t)
  | n + 1, t, true, W, o, out => if tkd K t = 31 then (if o = 6 then Sum.inl (2, pl K t) else if t = 400 then Sum.inl (2, pl K t) else exg K n (t + 1) true (31 :: W) (o + 1) out) else if 13 ≤ tkd K t ∧ tkd K t ≤ 21 then (if t = 400 then Sum.inl (2, pl K t) else exg K n (t + 1) false W o (out ++ [(-1) - (nI (tkd K t) - 13)])) else if tkd K t = 23 then (if t = 400 then Sum.inl (2, pl K t) else exg K n (t + 1) false W o (out ++ [(K t).2.2.1])) else Sum.inl (1, pl K t)
  | n + 1, t, false, W, o, out => if 26 ≤ tkd K t ∧ tkd K t ≤ 29 then (if t = 400 then Sum.inl (2, pl K t) else exg K n (t + 1) true (tkd K t :: (relS (decide (28 ≤ tkd K t)) W out).1) o (relS (decide (28 ≤ tkd K t)) W out).2) else if o = 0 then Sum.inr (t, (relS false W out).2) else if tkd K t = 32 then (if t = 400 then Sum.inl (2, pl K t) else exg K n (t + 1) false (relS false W out).1.tail (o - 1) (relS false W out).2) else Sum.inl (1, pl K t)
def exs (K : Nat → Tk) (t : Nat) : Sum (Int32 × Int32) (Nat × List Int32) := exg K 500 t true [] 0 []
/-! what waits -/
def sgs : List Nat → Nat
  | [] => 0
  | w :: W => (if w = 31 then 0 else 1) + sgs W
theorem sgs_c {w : Nat} {W : List Nat} : sgs (w :: W) = (if w = 31 then 0 else 1) + sgs W := rfl
def S4w (W R : List Nat) : Prop := W = R ∨ (∃ p, 26 ≤ p ∧ p ≤ 27 ∧ W = p :: R) ∨ (∃ m, 28 ≤ m ∧ m ≤ 29 ∧ W = m :: R) ∨ ∃ m p, 28 ≤ m ∧ m ≤ 29 ∧ 26 ≤ p ∧ p ≤ 27 ∧ W = m :: p :: R
def Wf : Nat → List Nat → Prop
  | 0, W => S4w W []
  | o + 1, W => ∃ R, Wf o R ∧ S4w W (31 :: R)
theorem S4w_s {W R : List Nat} (h : S4w W R) : sgs W ≤ sgs R + 2 ∧ sgs R ≤ sgs W ∧ W.length + sgs R = R.length + sgs W := by
  rcases h with rfl | ⟨p, p1, p2, rfl⟩ | ⟨p, p1, p2, rfl⟩ | ⟨m, p, m1, m2, p1, p2, rfl⟩
  · omega
  · simp only [sgs, List.length_cons]
    rw [if_neg (by omega)]
    omega
  · simp only [sgs, List.length_cons]
    rw [if_neg (by omega)]
    omega
  · simp only [sgs, List.length_cons]
    rw [if_neg (by omega), if_neg (by omega)]
    omega
theorem Wf_b : ∀ (o : Nat) (W : List Nat), Wf o W → sgs W ≤ 2 * o + 2 ∧ W.length = sgs W + o
  | 0, W, h => by
    have := S4w_s (R := []) h
    simp only [sgs, List.length_nil] at this
    omega
  | o + 1, W, h => by
    obtain ⟨R, h1, h2⟩ := h
    have a := Wf_b o R h1
    have b := S4w_s h2
    simp only [sgs, List.length_cons] at b
    rw [if_pos trivial] at b
    omega
theorem Wf_k : ∀ (o : Nat) (W : List Nat), Wf o W → ∀ w ∈ W, 26 ≤ w ∧ w ≤ 31 ∧ w ≠ 30
  | 0, W, h, w, hw => by
    rcases h with rfl | ⟨p, p1, p2, rfl⟩ | ⟨p, p1, p2, rfl⟩ | ⟨m, p, m1, m2, p1, p2, rfl⟩ <;> simp at hw <;> omega
  | o + 1, W, h, w, hw => by
    obtain ⟨R, h1, h2⟩ := h
    have a := Wf_k o R h1
    rcases h2 with rfl | ⟨p, p1, p2, rfl⟩ | ⟨p, p1, p2, rfl⟩ | ⟨m, p, m1, m2, p1, p2, rfl⟩
    · rcases List.mem_cons.mp hw with q | q
      · omega
      · exact a w q
    · rcases List.mem_cons.mp hw with q | q
      · omega
      · rcases List.mem_cons.mp q with q | q
        · omega
        · exact a w q
    · rcases List.mem_cons.mp hw with q | q
      · omega
      · rcases List.mem_cons.mp q with q | q
        · omega
        · exact a w q
    · rcases List.mem_cons.mp hw with q | q
      · omega
      · rcases List.mem_cons.mp q with q | q
        · omega
        · rcases List.mem_cons.mp q with q | q
          · omega
          · exact a w q
theorem relS_0 {W : List Nat} {out : List Int32} (h : S4w W []) : (relS false W out).1 = [] := by
  rcases h with rfl | ⟨p, p1, p2, rfl⟩ | ⟨p, p1, p2, rfl⟩ | ⟨m, p, m1, m2, p1, p2, rfl⟩
  · rfl
  · unfold relS
    rw [if_neg (by simp; omega)]
    rfl
  · unfold relS
    rw [if_neg (by simp; omega)]
    rfl
  · unfold relS
    rw [if_neg (by simp; omega)]
    unfold relS
    rw [if_neg (by simp; omega)]
    rfl
theorem relS_1 {W R : List Nat} {out : List Int32} (h : S4w W (31 :: R)) : (relS false W out).1 = 31 :: R := by
  have e : ∀ o, relS false (31 :: R) o = (31 :: R, o) := fun o => by
    unfold relS
    rw [if_pos (Or.inl rfl)]
  rcases h with rfl | ⟨p, p1, p2, rfl⟩ | ⟨p, p1, p2, rfl⟩ | ⟨m, p, m1, m2, p1, p2, rfl⟩
  · rw [e]
  · unfold relS
    rw [if_neg (by simp; omega), e]
  · unfold relS
    rw [if_neg (by simp; omega), e]
  · unfold relS
    rw [if_neg (by simp; omega)]
    unfold relS
    rw [if_neg (by simp; omega), e]
/-- behind a sign -/
theorem relS_p {W R : List Nat} {out : List Int32} {k : Nat} (hR : R = [] ∨ ∃ R', R = 31 :: R') (h1 : 26 ≤ k) (h2 : k ≤ 29) (h : S4w W R) : S4w (k :: (relS (decide (28 ≤ k)) W out).1) R := by
  have e : ∀ s o, relS s R o = (R, o) := fun s o => by
    rcases hR with rfl | ⟨R', rfl⟩
    · rfl
    · unfold relS
      rw [if_pos (Or.inl rfl)]
  by_cases hk : 28 ≤ k
  · rw [show decide (28 ≤ k) = true from decide_eq_true hk]
    rcases h with rfl | ⟨p, p1, p2, rfl⟩ | ⟨p, p1, p2, rfl⟩ | ⟨m, p, m1, m2, p1, p2, rfl⟩
    · rw [e]
      exact Or.inr (Or.inr (Or.inl ⟨k, hk, h2, rfl⟩))
    · unfold relS
      rw [if_pos (Or.inr ⟨rfl, by omega⟩)]
      exact Or.inr (Or.inr (Or.inr ⟨k, p, hk, h2, p1, p2, rfl⟩))
    · unfold relS
      rw [if_neg (by omega), e]
      exact Or.inr (Or.inr (Or.inl ⟨k, hk, h2, rfl⟩))
    · unfold relS
      rw [if_neg (by omega)]
      unfold relS
      rw [if_pos (Or.inr ⟨rfl, by omega⟩)]
      exact Or.inr (Or.inr (Or.inr ⟨k, p, hk, h2, p1, p2, rfl⟩))
  · rw [show decide (28 ≤ k) = false from decide_eq_false hk]
    have e2 : (relS false W out).1 = R := by
      rcases hR with rfl | ⟨R', rfl⟩
      · exact relS_0 h
      · exact relS_1 h
    rw [e2]
    exact Or.inr (Or.inl ⟨k, h1, by omega, rfl⟩)
theorem Wf_p {o k : Nat} {W : List Nat} {out : List Int32} (h1 : 26 ≤ k) (h2 : k ≤ 29) (h : Wf o W) : Wf o (k :: (relS (decide (28 ≤ k)) W out).1) := by
  match o, h with
  | 0, h => exact relS_p (Or.inl rfl) h1 h2 h
  | o + 1, ⟨R, a, b⟩ => exact ⟨R, a, relS_p (Or.inr ⟨R, rfl⟩) h1 h2 b⟩
theorem Wf_c {o : Nat} {W : List Nat} {out : List Int32} (h : Wf (o + 1) W) : ∃ R, (relS false W out).1 = 31 :: R ∧ Wf o R := by
  obtain ⟨R, a, b⟩ := h
  exact ⟨R, relS_1 b, a⟩
theorem Wf_o {o : Nat} {W : List Nat} (h : Wf o W) : Wf (o + 1) (31 :: W) := ⟨W, h, Or.inl rfl⟩
/-! heights -/
theorem hts_c {M : Nat} {c : Int32} {l : List Int32} {h : Nat} : hts M (c :: l) h = if -10 < c.toInt then (if h < M then hts M l (h + 1) else none) else if 2 ≤ h then hts M l (h - 1) else none := rfl
theorem hts_app {M : Nat} : ∀ (l l2 : List Int32) (h h' : Nat), hts M l h = some h' → hts M (l ++ l2) h = hts M l2 h'
  | [], l2, h, h', e => by
    cases e
    rfl
  | c :: l, l2, h, h', e => by
    rw [hts_c] at e
    show hts M (c :: (l ++ l2)) h = _
    rw [hts_c]
    split at e
    · rename_i q
      rw [if_pos q]
      split at e
      · rename_i w
        rw [if_pos w]
        exact hts_app l l2 _ _ e
      · cases e
    · rename_i q
      rw [if_neg q]
      split at e
      · rename_i w
        rw [if_pos w]
        exact hts_app l l2 _ _ e
      · cases e
theorem scd_v {w : Nat} (h : 26 ≤ w) (h2 : w ≤ 29) : scd w = -10 ∧ w = 26 ∨ scd w = -11 ∧ w = 27 ∨ scd w = -12 ∧ w = 28 ∨ scd w = -13 ∧ w = 29 := by
  rcases (show w = 26 ∨ w = 27 ∨ w = 28 ∨ w = 29 by omega) with rfl | rfl | rfl | rfl
  · exact Or.inl ⟨rfl, rfl⟩
  · exact Or.inr (Or.inl ⟨rfl, rfl⟩)
  · exact Or.inr (Or.inr (Or.inl ⟨rfl, rfl⟩))
  · exact Or.inr (Or.inr (Or.inr ⟨rfl, rfl⟩))
theorem scd_n {w : Nat} (h : 26 ≤ w) (h2 : w ≤ 29) : ¬ -10 < (scd w).toInt ∧ cdok (scd w) := by
  unfold cdok
  rcases scd_v h h2 with ⟨q, _⟩ | ⟨q, _⟩ | ⟨q, _⟩ | ⟨q, _⟩ <;> rw [q] <;> decide
/-- what comes out -/
theorem relS_h {s : Bool} : ∀ (W : List Nat) (out : List Int32) (x : Nat), (∀ w ∈ W, 26 ≤ w ∧ w ≤ 31 ∧ w ≠ 30) → hts 15 out 0 = some (sgs W + x) → 1 ≤ x → (∀ c ∈ out, cdok c) → hts 15 (relS s W out).2 0 = some (sgs (relS s W out).1 + x) ∧ (∀ c ∈ (relS s W out).2, cdok c) ∧ (relS s W out).2.length + (relS s W out).1.length = out.length + W.length
  | [], out, x, _, h, _, hc => ⟨h, hc, rfl⟩
  | w :: W, out, x, hw, h, hx, hc => by
    unfold relS
    by_cases y : w = 31 ∨ (s = true ∧ w < 28)
    · rw [if_pos y]
      exact ⟨h, hc, rfl⟩
    · rw [if_neg y]
      have w1 := hw w List.mem_cons_self
      have n31 : ¬ w = 31 := fun q => y (Or.inl q)
      have sc := scd_n (w := w) w1.1 (by omega)
      rw [sgs_c, if_neg n31] at h
      have h2 : hts 15 (out ++ [scd w]) 0 = some (sgs W + x) := by
        rw [hts_app out [scd w] 0 _ h]
        unfold hts
        rw [if_neg sc.1, if_pos (by omega)]
        unfold hts
        congr 1
        omega
      obtain ⟨r1, r2, r3⟩ := relS_h (s := s) W (out ++ [scd w]) x (fun z hz => hw z (List.mem_cons_of_mem _ hz)) h2 hx (fun c hcc => by
        rcases List.mem_append.mp hcc with q | q
        · exact hc c q
        · rw [List.mem_singleton.mp q]
          exact sc.2)
      refine ⟨r1, r2, ?_⟩
      rw [r3]
      simp only [List.length_append, List.length_cons, List.length_nil]
      omega
theorem hts_1 {out : List Int32} {c : Int32} {h : Nat} (e : hts 15 out 0 = some h) (hh : h < 15) (hc : -10 < c.toInt) : hts 15 (out ++ [c]) 0 = some (h + 1) := by
  rw [hts_app out [c] 0 _ e]
  unfold hts
  rw [if_pos hc, if_pos hh]
  rfl
/-- the E's codes: what holds of them all the way -/
def Xi (t0 t : Nat) (due : Bool) (W : List Nat) (o : Nat) (out : List Int32) : Prop := Wf o W ∧ o ≤ 6 ∧ hts 15 out 0 = some (sgs W + if due = true then 0 else 1) ∧ (∀ c ∈ out, cdok c) ∧ out.length + W.length + t0 ≤ t
theorem cd_add {out : List Int32} {c : Int32} (h : ∀ c ∈ out, cdok c) (hc : cdok c) : ∀ d ∈ out ++ [c], cdok d := fun d hd => by
  rcases List.mem_append.mp hd with q | q
  · exact h d q
  · rw [List.mem_singleton.mp q]
    exact hc
theorem Xi_unit {t0 t o : Nat} {W : List Nat} {out : List Int32} {c : Int32} (h : Xi t0 t true W o out) (hc : -10 < c.toInt) : Xi t0 (t + 1) false W o (out ++ [c]) := by
  obtain ⟨a1, a2, a3, a4, a5⟩ := h
  have b := Wf_b o W a1
  rw [if_pos rfl] at a3
  refine ⟨a1, a2, ?_, cd_add a4 (by unfold cdok; omega), ?_⟩
  · rw [if_neg (by decide)]
    exact hts_1 a3 (by omega) hc
  · rw [List.length_append, List.length_singleton]
    omega
theorem Xi_open {t0 t o : Nat} {W : List Nat} {out : List Int32} (h : Xi t0 t true W o out) (ho : ¬ o = 6) : Xi t0 (t + 1) true (31 :: W) (o + 1) out := by
  obtain ⟨a1, a2, a3, a4, a5⟩ := h
  refine ⟨Wf_o a1, by omega, ?_, a4, ?_⟩
  · rw [sgs_c, if_pos (c := 31 = 31) rfl, Nat.zero_add]
    exact a3
  · rw [List.length_cons]
    omega
theorem Xi_sign {t0 t o k : Nat} {W : List Nat} {out : List Int32} (h : Xi t0 t false W o out) (h1 : 26 ≤ k) (h2 : k ≤ 29) : Xi t0 (t + 1) true (k :: (relS (decide (28 ≤ k)) W out).1) o (relS (decide (28 ≤ k)) W out).2 := by
  obtain ⟨a1, a2, a3, a4, a5⟩ := h
  rw [if_neg (by decide)] at a3
  obtain ⟨r1, r2, r3⟩ := relS_h (s := decide (28 ≤ k)) W out 1 (Wf_k o W a1) a3 (Nat.le_refl _) a4
  refine ⟨Wf_p h1 h2 a1, a2, ?_, r2, ?_⟩
  · rw [r1, sgs_c, if_neg (c := k = 31) (by omega), if_pos rfl]
    congr 1
    omega
  · rw [List.length_cons]
    omega
theorem Xi_close {t0 t o : Nat} {W : List Nat} {out : List Int32} (h : Xi t0 t false W (o + 1) out) : Xi t0 (t + 1) false (relS false W out).1.tail o (relS false W out).2 ∧ ∃ R, (relS false W out).1 = 31 :: R := by
  obtain ⟨a1, a2, a3, a4, a5⟩ := h
  rw [if_neg (by decide)] at a3
  obtain ⟨r1, r2, r3⟩ := relS_h (s := false) W out 1 (Wf_k (o + 1) W a1) a3 (Nat.le_refl _) a4
  obtain ⟨R, e, wr⟩ := Wf_c (out := out) a1
  rw [e] at r1 r3 ⊢
  refine ⟨⟨wr, by omega, ?_, r2, ?_⟩, R, rfl⟩
  · rw [r1, if_neg (by decide), sgs_c, if_pos (c := 31 = 31) rfl, Nat.zero_add, List.tail_cons]
  · simp only [List.length_cons, List.tail_cons] at r3 ⊢
    omega
theorem Xi_end {t0 t : Nat} {W : List Nat} {out : List Int32} (h : Xi t0 t false W 0 out) : eok (relS false W out).2 ∧ (relS false W out).2.length + t0 ≤ t ∧ (relS false W out).1 = [] ∧ 1 ≤ (relS false W out).2.length := by
  obtain ⟨a1, a2, a3, a4, a5⟩ := h
  rw [if_neg (by decide)] at a3
  obtain ⟨r1, r2, r3⟩ := relS_h (s := false) W out 1 (Wf_k 0 W a1) a3 (Nat.le_refl _) a4
  have e := relS_0 (out := out) a1
  rw [e] at r1 r3
  refine ⟨⟨r1, r2⟩, by simp only [List.length_nil] at r3; omega, e, ?_⟩
  rcases hl : (relS false W out).2 with _ | ⟨c, l⟩
  · rw [hl] at r1
    simp only [hts, sgs] at r1
    exact absurd r1 (by decide)
  · simp
theorem Xi_0 {t : Nat} : Xi t t true [] 0 [] := ⟨Or.inl rfl, by omega, rfl, fun c h => absurd h List.not_mem_nil, by simp⟩
theorem var_c {k : Nat} (h : 13 ≤ k) (h2 : k ≤ 21) : (-1) - (nI k - 13) = (-1) - (nI (k - 13)) ∧ -10 < ((-1) - (nI k - 13) : Int32).toInt ∧ ((-1) - (nI k - 13) : Int32).toInt < 0 ∧ rc ((-1) - (nI k - 13)) = (1, nI (k - 13)) := by
  rcases (show k = 13 ∨ k = 14 ∨ k = 15 ∨ k = 16 ∨ k = 17 ∨ k = 18 ∨ k = 19 ∨ k = 20 ∨ k = 21 by omega) with rfl | rfl | rfl | rfl | rfl | rfl | rfl | rfl | rfl <;> decide
/-- what an E gives -/
theorem exg_ok {K : Nat → Tk} (hv : ∀ t, (K t).1 = 23 → ∃ n, n < 10000 ∧ (K t).2.2.1 = nI n) {t0 : Nat} : ∀ (n t : Nat) (due : Bool) (W : List Nat) (o : Nat) (out : List Int32) (t' : Nat) (l : List Int32), Xi t0 t due W o out → exg K n t due W o out = Sum.inr (t', l) → t ≤ 400 → eok l ∧ l.length + t0 ≤ t' ∧ t ≤ t' ∧ t' ≤ 400 ∧ 1 ≤ l.length
  | 0, t, due, W, o, out, t', l, h, e, ht => by
    unfold exg at e
    cases e
  | n + 1, t, true, W, o, out, t', l, h, e, ht => by
    unfold exg at e
    split at e
    · split at e
      · cases e
      · rename_i ho
        split at e
        · cases e
        · obtain ⟨r1, r2, r3, r4⟩ := exg_ok hv n (t + 1) true _ _ _ t' l (Xi_open h ho) e (by omega)
          exact ⟨r1, r2, by omega, r4⟩
    · split at e
      · rename_i hk
        split at e
        · cases e
        · obtain ⟨r1, r2, r3, r4⟩ := exg_ok hv n (t + 1) false _ _ _ t' l (Xi_unit h (var_c hk.1 hk.2).2.1) e (by omega)
          exact ⟨r1, r2, by omega, r4⟩
      · split at e
        · rename_i hk
          split at e
          · cases e
          · obtain ⟨m, hm, em⟩ := hv t hk
            obtain ⟨r1, r2, r3, r4⟩ := exg_ok hv n (t + 1) false _ _ _ t' l (Xi_unit h (by rw [em, nI_toInt (by omega)]; omega)) e (by omega)
            exact ⟨r1, r2, by omega, r4⟩
        · cases e
  | n + 1, t, false, W, o, out, t', l, h, e, ht => by
    unfold exg at e
    split at e
    · rename_i hk
      split at e
      · cases e
      · obtain ⟨r1, r2, r3, r4⟩ := exg_ok hv n (t + 1) true _ _ _ t' l (Xi_sign h hk.1 hk.2) e (by omega)
        exact ⟨r1, r2, by omega, r4⟩
    · split at e
      · rename_i ho
        subst ho
        injection e with e
        injection e with e1 e2
        subst e1
        subst e2
        have := Xi_end h
        exact ⟨this.1, this.2.1, Nat.le_refl _, ht, this.2.2.2⟩
      · split at e
        · split at e
          · cases e
          · obtain ⟨o, rfl⟩ : ∃ x, o = x + 1 := ⟨o - 1, by omega⟩
            obtain ⟨r1, r2, r3, r4⟩ := exg_ok hv n (t + 1) false _ _ _ t' l (Xi_close h).1 e (by omega)
            exact ⟨r1, r2, by omega, r4⟩
        · cases e
theorem exs_ok {K : Nat → Tk} (hv : ∀ t, (K t).1 = 23 → ∃ n, n < 10000 ∧ (K t).2.2.1 = nI n) {t t' : Nat} {l : List Int32} (e : exs K t = Sum.inr (t', l)) (ht : t ≤ 400) : eok l ∧ l.length + t ≤ t' ∧ t' ≤ 400 ∧ 1 ≤ l.length := by
  obtain ⟨r1, r2, r3, r4⟩ := exg_ok hv (t0 := t) 500 t true [] 0 [] t' l Xi_0 e ht
  exact ⟨r1, r2, r4⟩
