/-! PURE: read, one telling -/
def FTC (T c i j : Nat) : Prop := (c = 2 ∧ j ≠ 3) ∨ (c = 7 ∧ 1 ≤ j) ∨ c = 24 ∨ (c = 37 ∧ i = T) ∨ (c = 38 ∧ i = T) ∨ (c = 8 ∧ i = T) ∨ (c = 5 ∧ i = 7) ∨ ((c = 3 ∨ c = 25 ∨ c = 26 ∨ c = 6) ∧ 9 * T ≤ i ∧ i < 9 * T + 9)
def FTR (S c i j : Nat) : Prop := (c = 12 ∧ (11 ≤ j ∧ j ≤ 16 ∨ j = 20 ∨ j = 31 ∨ j = 37 ∨ j = 41)) ∨ c = 72 ∨ (65 ≤ c ∧ c ≤ 69 ∧ 130 * S ≤ j ∧ j < 130 * S + 130) ∨ ((c = 70 ∨ c = 71) ∧ 420 * S ≤ j ∧ j < 420 * S + 420) ∨ (((c = 63 ∨ c = 64) ∧ 4 * S ≤ j ∧ j < 4 * S + 4) ∨ c = 61 ∨ (63 ≤ c ∧ c ≤ 72 ∧ i ≠ 0)) ∨ ((c = 56 ∨ c = 57 ∨ c = 62) ∧ j = S) ∨ (c = 58 ∧ 9 * S ≤ j ∧ j < 9 * S + 9) ∨ ((c = 59 ∨ c = 60) ∧ 72 * S ≤ j ∧ j < 72 * S + 72)
def RDq (T S n : Nat) (qs : Nat → List (Int32 × Int32)) (D : Int32 × Int32) (μ ν : Mm) : Prop := ∀ i, i < n → RwC μ (9 * T + i) (qs i) ∧ (∀ w ∈ qs i, mvw w) ∧ gi ν 61 0 (4 * S + i) = atR (mkl (qs i) (0, 1)) ∧ (D.1 = 0 → (mkl (qs i) (0, 1)).isSome = true)
def RDf (T S m : Nat) (fs : Nat → List (Int32 × Int32)) (D : Int32 × Int32) (μ ν : Mm) : Prop := ∀ f, f < m → RwC μ (9 * T + 4 + f) (fs f) ∧ RwR ν (9 * S + 4 + f) (fs f) ∧ (D.1 = 0 → ∀ w ∈ fs f, mvok w)
def RDl (T S P b C : Nat) (lb : Nat → List Br × List Int32) (μ ν : Mm) : Prop := ∀ k, k < 4 → lok (lb k).1 (lb k).2 ∧ (∃ p, gi μ 38 T k = nI p ∧ cEnc μ T P (lb k).1 (lb k).2 p) ∧ ((∃ b0, gi ν 63 0 (4 * S + k) = nI b0 ∧ gi ν 64 0 (4 * S + k) = nI (b0 + (lb k).1.length + 1) ∧ 130 * S ≤ b0 ∧ b0 + (lb k).1.length + 1 ≤ b ∧ rBx ν (420 * S) C (lb k).1 (lb k).2 b0) ∨ (gi ν 63 0 (4 * S + k) = gi ν 64 0 (4 * S + k) ∧ lb k = ([], [dfl k])))
def RDa (T S : Nat) (K : Nat → Tk) (N t n m : Nat) (sd : Int32) (μ ν : Mm) : Prop := (LC T K N t μ ∧ LR K N t ν ∧ gi ν 12 0 12 = 0 ∧ gi ν 12 0 19 = nI S) ∧ n ≤ 4 ∧ m ≤ 5 ∧ gi μ 8 T 0 = nI n ∧ gi μ 8 T 1 = nI m ∧ gi μ 8 T 2 = sd ∧ gi ν 56 0 S = nI n ∧ gi ν 57 0 S = nI m ∧ gi ν 62 0 S = sd
def RDd (T n m : Nat) (D : Int32 × Int32) (nms : List Int64) (μ ν : Mm) : Prop := (gi μ 2 0 4 = D.1 ∧ gi μ 2 0 5 = D.2 ∧ DoR D ν ∧ dvd D) ∧ nms.length = n + m ∧ NmC T nms μ ∧ NmR nms ν
def RDc (T S t P b C : Nat) (μ ν : Mm) : Prop := gi μ 8 T 5 = nI P ∧ P ≤ 8 + t ∧ gi ν 12 0 31 = nI b ∧ 130 * S ≤ b ∧ 4 * b ≤ t + 520 * S ∧ gi ν 12 0 37 = nI C ∧ 420 * S ≤ C ∧ C + (402 - t) ≤ 420 * S + 420
def RD (T S : Nat) (K : Nat → Tk) (N t : Nat) (D : Int32 × Int32) (X : (Nat × Nat × Int32) × (Nat → List (Int32 × Int32)) × (Nat → List (Int32 × Int32)) × (Nat → List Br × List Int32)) (μ ν : Mm) : Prop := ∃ (nms : List Int64) (P b C : Nat), RDa T S K N t X.1.1 X.1.2.1 X.1.2.2 μ ν ∧ RDq T S X.1.1 X.2.1 D μ ν ∧ RDf T S X.1.2.1 X.2.2.1 D μ ν ∧ RDl T S P b C X.2.2.2 μ ν ∧ RDd T X.1.1 X.1.2.1 D nms μ ν ∧ RDc T S t P b C μ ν
theorem cEnc_kp {T P P' : Nat} {μ μ' : Mm} (hP : P ≤ P') (h : ∀ j, j < P → gi μ' 37 T j = gi μ 37 T j) : ∀ (bs : List Br) (l : List Int32) (p : Nat), cEnc μ T P bs l p → cEnc μ' T P' bs l p
  | [], l, p, q => by
    have q2 := q.2
    exact ⟨seg_kp h (by rw [List.length_append, List.length_singleton]; omega) q.1, by omega⟩
  | b :: bs, l, p, q => by
    obtain ⟨p', q1, q2, q3, q4⟩ := q
    exact ⟨p', q1, seg_kp h (by simp only [List.length_append, List.length_cons, List.length_nil]; omega) q2, by omega, cEnc_kp hP h bs l p' q4⟩
theorem RDq_fr {P P' : Nat → Nat → Nat → Prop} {Q Q' : Nat → Prop} {T S n : Nat} {qs : Nat → List (Int32 × Int32)} {D D' : Int32 × Int32} {μ μ' ν ν' : Mm} (h : fr P Q μ μ') (h' : fr P' Q' ν ν') (h1 : ∀ c i j, (c = 3 ∨ c = 25 ∨ c = 26 ∨ c = 6) → 9 * T ≤ i → i < 9 * T + n → ¬ P c i j) (h2 : ∀ j, 4 * S ≤ j → j < 4 * S + n → ¬ P' 61 0 j) (hD : D'.1 = 0 → D.1 = 0) (q : RDq T S n qs D μ ν) : RDq T S n qs D' μ' ν' := fun i hi => by
  obtain ⟨a1, a2, a3, a4⟩ := q i hi
  exact ⟨RwC_fr h (fun c j hc => h1 c _ j hc (by omega) (by omega)) a1, a2, (fr_n h' (h2 _ (by omega) (by omega))).trans a3, fun w => a4 (hD w)⟩
theorem RDf_fr {P P' : Nat → Nat → Nat → Prop} {Q Q' : Nat → Prop} {T S m : Nat} {fs : Nat → List (Int32 × Int32)} {D D' : Int32 × Int32} {μ μ' ν ν' : Mm} (h : fr P Q μ μ') (h' : fr P' Q' ν ν') (h1 : ∀ c i j, (c = 3 ∨ c = 25 ∨ c = 26 ∨ c = 6) → 9 * T + 4 ≤ i → i < 9 * T + 4 + m → ¬ P c i j) (h2 : ∀ c j, (c = 58 ∧ 9 * S + 4 ≤ j ∧ j < 9 * S + 4 + m) ∨ ((c = 59 ∨ c = 60) ∧ 8 * (9 * S + 4) ≤ j ∧ j < 8 * (9 * S + 4 + m)) → ¬ P' c 0 j) (hD : D'.1 = 0 → D.1 = 0) (q : RDf T S m fs D μ ν) : RDf T S m fs D' μ' ν' := fun f hf => by
  obtain ⟨a1, a2, a3⟩ := q f hf
  exact ⟨RwC_fr h (fun c j hc => h1 c _ j hc (by omega) (by omega)) a1, RwR_fr h' a1.2.1 ⟨h2 _ _ (Or.inl ⟨rfl, by omega, by omega⟩), fun c j hc g1 g2 => h2 _ _ (Or.inr ⟨hc, by omega, by omega⟩)⟩ a2, fun w => a3 (hD w)⟩
theorem RDl_fr {P' : Nat → Nat → Nat → Prop} {Q' : Nat → Prop} {T S P b C : Nat} {lb : Nat → List Br × List Int32} {μ μ' ν ν' : Mm} (h38 : ∀ k, gi μ' 38 T k = gi μ 38 T k) (h37 : ∀ j, j < P → gi μ' 37 T j = gi μ 37 T j) (h' : fr P' Q' ν ν') (h2 : ∀ c j, 63 ≤ c → c ≤ 71 → ¬ P' c 0 j) (q : RDl T S P b C lb μ ν) : RDl T S P b C lb μ' ν' := fun k hk => by
  obtain ⟨a1, ⟨p, a2, a3⟩, a4⟩ := q k hk
  refine ⟨a1, ⟨p, (h38 k).trans a2, cEnc_kp (Nat.le_refl _) h37 _ _ _ a3⟩, ?_⟩
  rcases a4 with ⟨b0, c1, c2, c3, c4, c5⟩ | ⟨c1, c2⟩
  · exact Or.inl ⟨b0, (fr_n h' (h2 _ _ (by omega) (by omega))).trans c1, (fr_n h' (h2 _ _ (by omega) (by omega))).trans c2, c3, c4, rBx_kp (Nat.le_refl _) (Nat.le_refl _) _ _ _ (fun c j g1 g2 _ _ => fr_n h' (h2 _ _ (by omega) (by omega))) (fun c j g1 _ _ => fr_n h' (h2 _ _ (by omega) (by omega))) c5⟩
  · exact Or.inr ⟨by rw [fr_n h' (h2 63 _ (by omega) (by omega)), fr_n h' (h2 64 _ (by omega) (by omega))]; exact c1, c2⟩
theorem lwe_ok {K : Nat → Tk} (hv : ∀ t, (K t).1 = 23 → ∃ n, n < 10000 ∧ (K t).2.2.1 = nI n) {t : Nat} {r : Nat × List Br × List Int32} (e : lwe K t = Sum.inr r) (ht : t ≤ 400) : lok r.2.1 r.2.2 ∧ t < r.1 := by
  unfold lwe at e
  cases h1 : exs K t with
  | inl q =>
    rw [h1] at e
    cases e
  | inr x =>
    rw [h1, sbd_r] at e
    have x1 := exs_ok hv (t := t) (t' := x.1) (l := x.2) h1 ht
    cases h2 : adv K x.1 24 with
    | inl q =>
      rw [h2] at e
      cases e
    | inr t2 =>
      rw [h2, sbd_r] at e
      injection e with e
      subst e
      obtain ⟨rfl, _, _⟩ := adv_r h2
      exact ⟨⟨fun b hb => absurd hb List.not_mem_nil, x1.1⟩, by show t < x.1 + 1; omega⟩
theorem lwg_ok {K : Nat → Tk} (hv : ∀ t, (K t).1 = 23 → ∃ n, n < 10000 ∧ (K t).2.2.1 = nI n) : ∀ (n t : Nat) (r : Nat × List Br × List Int32), lwg K n t = Sum.inr r → t ≤ 400 → lok r.2.1 r.2.2 ∧ t < r.1
  | 0, t, r, e, ht => by
    unfold lwg at e
    split at e
    · cases e
    · exact lwe_ok hv e ht
  | n + 1, t, r, e, ht => by
    unfold lwg at e
    split at e
    · cases h0 : adv K t 10 with
      | inl q => rw [h0] at e; cases e
      | inr t0 =>
      rw [h0, sbd_r] at e
      obtain ⟨rfl, n0, _⟩ := adv_r h0
      cases h1 : exs K (t + 1) with
      | inl q => rw [h1] at e; cases e
      | inr a =>
      rw [h1, sbd_r] at e
      have x1 := exs_ok hv (t := t + 1) (t' := a.1) (l := a.2) h1 (by omega)
      cases h2 : adv K a.1 30 with
      | inl q => rw [h2] at e; cases e
      | inr t2 =>
      rw [h2, sbd_r] at e
      obtain ⟨rfl, n2, _⟩ := adv_r h2
      cases h3 : exs K (a.1 + 1) with
      | inl q => rw [h3] at e; cases e
      | inr b =>
      rw [h3, sbd_r] at e
      have x3 := exs_ok hv (t := a.1 + 1) (t' := b.1) (l := b.2) h3 (by omega)
      cases h4 : adv K b.1 11 with
      | inl q => rw [h4] at e; cases e
      | inr t4 =>
      rw [h4, sbd_r] at e
      obtain ⟨rfl, n4, _⟩ := adv_r h4
      cases h5 : exs K (b.1 + 1) with
      | inl q => rw [h5] at e; cases e
      | inr c =>
      rw [h5, sbd_r] at e
      have x5 := exs_ok hv (t := b.1 + 1) (t' := c.1) (l := c.2) h5 (by omega)
      cases h6 : adv K c.1 12 with
      | inl q => rw [h6] at e; cases e
      | inr t6 =>
      rw [h6, sbd_r] at e
      obtain ⟨rfl, n6, _⟩ := adv_r h6
      cases h7 : lwg K n (c.1 + 1) with
      | inl q => rw [h7] at e; cases e
      | inr s =>
      rw [h7, sbd_r] at e
      injection e with e
      subst e
      obtain ⟨y1, y2⟩ := lwg_ok hv n (c.1 + 1) s h7 (by omega)
      refine ⟨⟨fun z hz => ?_, y1.2⟩, by show t < s.1; omega⟩
      rcases List.mem_cons.mp hz with q | q
      · rw [q]
        exact ⟨x1.1, x3.1, x5.1⟩
      · exact y1.1 z q
    · exact lwe_ok hv e ht
theorem rowg_lt {K : Nat → Tk} (hv : ∀ t, (K t).1 = 23 → ∃ n, n < 10000 ∧ (K t).2.2.1 = nI n) {t : Nat} {s : Nat × List (Int32 × Int32) × List Int32} (e : rowg K t = Sum.inr s) : t < s.1 ∧ (∀ w ∈ s.2.1, mvw w) ∧ (s.2.2 = [] → ∀ w ∈ s.2.1, mvok w) ∧ s.2.1.length ≤ 8 := by
  unfold rowg at e
  cases h1 : adv K t 22 with
  | inl q => rw [h1] at e; cases e
  | inr t2 =>
  rw [h1, sbd_r] at e
  obtain ⟨rfl, _, _⟩ := adv_r h1
  cases h2 : mvg K 8 (t + 1) with
  | inl q => rw [h2] at e; cases e
  | inr r =>
  rw [h2, sbd_r] at e
  obtain ⟨m1, m2, m3, m4⟩ := mvg_ok hv 8 (t + 1) r h2
  cases h3 : adv K r.1 24 with
  | inl q => rw [h3] at e; cases e
  | inr t3 =>
  rw [h3, sbd_r] at e
  injection e with e
  subst e
  obtain ⟨rfl, _, _⟩ := adv_r h3
  exact ⟨by show t < r.1 + 1; omega, m1, m2, m3⟩
/-- a row is cleared -/
theorem p_clrRow {F r : Nat} {μ : Mm} : ∃ μ', fX3_clear F r μ = some μ' ∧ fr (FRw r) (fun _ => False) μ μ' ∧ RwC μ' r [] := by
  unfold fX3_clear fX6_clear
  rw [bd1_s]
  generalize hμ' : si (si (si (si (si μ 3 r 0 0) 6 r 0 1) 6 r 1 0) 6 r 2 0) 6 r 3 1 = μ'
  have f : fr (FRw r) (fun _ => False) μ μ' := by
    rw [← hμ']
    exact fr_tr (fr_tr (fr_tr (fr_tr (fr_si ⟨Or.inl rfl, rfl⟩) (fr_si ⟨Or.inr (Or.inr (Or.inr rfl)), rfl⟩)) (fr_si ⟨Or.inr (Or.inr (Or.inr rfl)), rfl⟩)) (fr_si ⟨Or.inr (Or.inr (Or.inr rfl)), rfl⟩)) (fr_si ⟨Or.inr (Or.inr (Or.inr rfl)), rfl⟩)
  refine ⟨μ', rfl, f, ?_, Nat.zero_le _, fun j hj => absurd hj (Nat.not_lt_zero _), ?_⟩
  · rw [← hμ', gi_ne (by omega), gi_ne (by omega), gi_ne (by omega), gi_ne (by omega), gi_eq]
    rfl
  · rw [← hμ']
    unfold tbC
    simp [gi_si]
    rfl
