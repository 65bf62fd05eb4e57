/-! PURE: whole LAWS, both sides -/
theorem ev1_len {v : Nat → Int32} {c : Int32} {st st' : List Int32} (h : ev1 v c st = some st') (h2 : -10 < c.toInt ∨ 2 ≤ st.length) : st'.length = (if -10 < c.toInt then st.length + 1 else st.length - 1) := by
  unfold ev1 at h
  split at h
  · rename_i q
    cases h
    simp [q]
  · rename_i q
    rw [if_neg q]
    split at h
    · simp only [List.length_cons]
      split at h
      · cases h; simp
      · split at h
        · cases h; simp
        · split at h
          · cases h; simp
          · split at h
            · cases h
            · cases h; simp
    · cases h
theorem ev1_app {v : Nat → Int32} {c : Int32} {st r : List Int32} (h2 : -10 < c.toInt ∨ 2 ≤ st.length) : ev1 v c (st ++ r) = match ev1 v c st with
    | none => none
    | some s => some (s ++ r) := by
  unfold ev1
  by_cases q : -10 < c.toInt
  · rw [if_pos q, if_pos q]
    rfl
  · rw [if_neg q, if_neg q]
    have h3 : 2 ≤ st.length := by omega
    match st, h3 with
    | [], h => simp at h
    | [_], h => simp at h
    | b :: a :: st, _ =>
      show (if c = -10 then some ((a + b) :: (st ++ r)) else if c = -11 then some ((a - b) :: (st ++ r)) else if c = -12 then some ((a * b) :: (st ++ r)) else if b = 0 then none else some ((a / b) :: (st ++ r))) = match (if c = -10 then some ((a + b) :: st) else if c = -11 then some ((a - b) :: st) else if c = -12 then some ((a * b) :: st) else if b = 0 then none else some ((a / b) :: st)) with
        | none => none
        | some s => some (s ++ r)
      by_cases c1 : c = -10
      · rw [if_pos c1, if_pos c1]; rfl
      · rw [if_neg c1, if_neg c1]
        by_cases c2 : c = -11
        · rw [if_pos c2, if_pos c2]; rfl
        · rw [if_neg c2, if_neg c2]
          by_cases c3 : c = -12
          · rw [if_pos c3, if_pos c3]; rfl
          · rw [if_neg c3, if_neg c3]
            by_cases c4 : b = 0
            · rw [if_pos c4, if_pos c4]
            · rw [if_neg c4, if_neg c4]; rfl
theorem hts_s {M : Nat} {c : Int32} {l : List Int32} {h h' : Nat} (e : hts M (c :: l) h = some h') : (-10 < c.toInt ∨ 2 ≤ h) ∧ (-10 < c.toInt → h < M) ∧ hts M l (if -10 < c.toInt then h + 1 else h - 1) = some h' := by
  unfold hts at e
  by_cases q : -10 < c.toInt
  · rw [if_pos q] at e
    rw [if_pos q]
    split at e
    · rename_i w
      exact ⟨Or.inl q, fun _ => w, e⟩
    · cases e
  · rw [if_neg q] at e
    rw [if_neg q]
    split at e
    · rename_i w
      exact ⟨Or.inr w, fun r => absurd r q, e⟩
    · cases e
theorem evs_c {v : Nat → Int32} {c : Int32} {l st : List Int32} : evs v (c :: l) st = match ev1 v c st with
    | none => none
    | some st' => evs v l st' := rfl
theorem evs_len {v : Nat → Int32} {M : Nat} : ∀ (l st st' : List Int32) (h' : Nat), hts M l st.length = some h' → evs v l st = some st' → st'.length = h'
  | [], st, st', h', h1, h2 => by
    cases h1
    cases h2
    rfl
  | c :: l, st, st', h', h1, h2 => by
    obtain ⟨a1, a2, a3⟩ := hts_s h1
    rw [evs_c] at h2
    cases e : ev1 v c st with
    | none => rw [e] at h2; cases h2
    | some s =>
      rw [e] at h2
      rw [← ev1_len e a1] at a3
      exact evs_len l s st' h' a3 h2
theorem evs_app {v : Nat → Int32} {M : Nat} : ∀ (l st r : List Int32) (h' : Nat), hts M l st.length = some h' → evs v l (st ++ r) = match evs v l st with
    | none => none
    | some s => some (s ++ r)
  | [], st, r, h', h1 => rfl
  | c :: l, st, r, h', h1 => by
    obtain ⟨a1, a2, a3⟩ := hts_s h1
    rw [evs_c, evs_c, ev1_app a1]
    cases e : ev1 v c st with
    | none => rfl
    | some s =>
      rw [← ev1_len e a1] at a3
      exact evs_app l s r h' a3
theorem hts_sh {k : Nat} : ∀ (l : List Int32) (M h h' : Nat), hts M l h = some h' → hts (M + k) l (h + k) = some (h' + k)
  | [], M, h, h', e => by
    cases e
    rfl
  | c :: l, M, h, h', e => by
    obtain ⟨a1, a2, a3⟩ := hts_s e
    unfold hts
    by_cases q : -10 < c.toInt
    · rw [if_pos q] at a3 ⊢
      rw [if_pos (by have := a2 q; omega), show h + k + 1 = h + 1 + k by omega]
      exact hts_sh l M (h + 1) h' a3
    · rw [if_neg q] at a3 ⊢
      have a4 : 2 ≤ h := by omega
      rw [if_pos (by omega), show h + k - 1 = h - 1 + k by omega]
      exact hts_sh l M (h - 1) h' a3
theorem hts_mono {M M' : Nat} (hM : M ≤ M') : ∀ (l : List Int32) (h h' : Nat), hts M l h = some h' → hts M' l h = some h'
  | [], h, h', e => e
  | c :: l, h, h', e => by
    obtain ⟨a1, a2, a3⟩ := hts_s e
    unfold hts
    by_cases q : -10 < c.toInt
    · rw [if_pos q] at a3 ⊢
      rw [if_pos (by have := a2 q; omega)]
      exact hts_mono hM l (h + 1) h' a3
    · rw [if_neg q] at a3 ⊢
      have a4 : 2 ≤ h := by omega
      rw [if_pos (by omega)]
      exact hts_mono hM l (h - 1) h' a3
/-- an E's value stands on whatever lay below -/
theorem evE_on {v : Nat → Int32} {l r : List Int32} (h : eok l) : evs v l r = match evE v l with
    | none => none
    | some x => some (x :: r) := by
  have h1 := evs_app (v := v) l [] r 1 h.1
  rw [List.nil_append] at h1
  rw [h1]
  unfold evE
  cases e : evs v l [] with
  | none => rfl
  | some s =>
    have h2 := evs_len l [] s 1 h.1 e
    match s, h2 with
    | [x], _ => rfl
/-- all is as it was but what P names -/
def ag (P : Nat → Nat → Nat → Prop) (μ μ' : Mm) : Prop := (∀ c i j, ¬ P c i j → gi μ' c i j = gi μ c i j) ∧ ∀ c i j, gj μ' c i j = gj μ c i j
theorem ag_rfl {P : Nat → Nat → Nat → Prop} {μ : Mm} : ag P μ μ := ⟨fun _ _ _ _ => rfl, fun _ _ _ => rfl⟩
theorem ag_tr {P : Nat → Nat → Nat → Prop} {μ μ' μ'' : Mm} (h : ag P μ μ') (h' : ag P μ' μ'') : ag P μ μ'' :=
  ⟨fun c i j q => (h'.1 c i j q).trans (h.1 c i j q), fun c i j => (h'.2 c i j).trans (h.2 c i j)⟩
theorem ag_si {P : Nat → Nat → Nat → Prop} {c0 i0 j0 : Nat} {μ : Mm} {v : Int32} (h : P c0 i0 j0) : ag P μ (si μ c0 i0 j0 v) := ⟨fun c i j q => by
  rw [gi_si, if_neg]
  rintro ⟨rfl, rfl, rfl⟩
  exact q h, fun _ _ _ => rfl⟩
theorem ag_of {P P' : Nat → Nat → Nat → Prop} {μ μ' : Mm} (h : ag P μ μ') (hp : ∀ c i j, P c i j → P' c i j) : ag P' μ μ' := ⟨fun c i j q => h.1 c i j (fun w => q (hp c i j w)), h.2⟩
theorem ag_agr {P : Nat → Nat → Nat → Prop} {c0 i0 : Nat} {μ μ' : Mm} (h : agr c0 i0 μ μ') (hp : ∀ j, P c0 i0 j) : ag P μ μ' := ⟨fun c i j q => h.1 c i j (by
  rintro ⟨rfl, rfl⟩
  exact q (hp j)), h.2⟩
theorem p_runs {F T P : Nat} {v : Nat → Int32} (hP2 : P ≤ 408)  {M : Nat} (hM : M ≤ 31) : ∀ (l st : List Int32) (p h' : Nat) (μ : Mm), seg μ 37 T p l → (∀ c ∈ l, cdok c) → p + l.length ≤ P → gi μ 8 T 5 = nI P → (∀ k, k < 9 → gi μ 39 T k = v k) → hts M l st.length = some h' → st.length ≤ 31 → stk μ 40 T st → match evs v l st with
    | none => ∃ μ', agr 40 T μ μ' ∧ ∀ n, fX8_run_L8 F (n + l.length) T (nI st.length) (nI p) μ = some (0, μ')
    | some st' => ∃ μ', agr 40 T μ μ' ∧ stk μ' 40 T st' ∧ ∀ n, fX8_run_L8 F (n + l.length) T (nI st.length) (nI p) μ = fX8_run_L8 F n T (nI st'.length) (nI (p + l.length)) μ'
  | [], st, p, h', μ, _, _, _, _, _, _, _, hk => ⟨μ, agr_rfl, hk, fun n => rfl⟩
  | c :: l, st, p, h', μ, hs, hc, hp, hP, hv, ht, h31, hk => by
    obtain ⟨a1, a2, a3⟩ := hts_s ht
    simp only [List.length_cons] at hp
    have r := p_run1 (F := F) (T := T) hv hP hP2 (by omega) (seg_hd hs) (hc c List.mem_cons_self) rfl (by omega) hk a1
    rw [evs_c]
    cases e : ev1 v c st with
    | none =>
      rw [e] at r
      refine ⟨μ, agr_rfl, fun n => ?_⟩
      rw [List.length_cons, show n + (l.length + 1) = n + l.length + 1 by omega]
      exact r _
    | some s =>
      rw [e] at r
      obtain ⟨μ1, b1, b2, b3, b4⟩ := r
      have e2 := ev1_len e a1
      rw [← e2] at a3
      have h32 : s.length ≤ 31 := by
        rw [e2]
        split
        · rename_i q
          have := a2 q
          omega
        · omega
      have r2 := p_runs (F := F) hP2 hM l s (p + 1) h' μ1 (seg_agr b1 (by omega) (seg_tl hs)) (fun d hd => hc d (List.mem_cons_of_mem _ hd)) (by omega) ((b1.1 _ _ _ (by omega)).trans hP) (fun k hk => (b1.1 _ _ _ (by omega)).trans (hv k hk)) a3 h32 b2
      show match evs v l s with
        | none => _
        | some st' => _
      cases e3 : evs v l s with
      | none =>
        rw [e3] at r2
        obtain ⟨μ2, d1, d2⟩ := r2
        refine ⟨μ2, agr_tr b1 d1, fun n => ?_⟩
        rw [List.length_cons, show n + (l.length + 1) = n + l.length + 1 by omega, b4]
        exact d2 n
      | some s2 =>
        rw [e3] at r2
        obtain ⟨μ2, d1, d2, d3⟩ := r2
        refine ⟨μ2, agr_tr b1 d1, d2, fun n => ?_⟩
        rw [List.length_cons, show n + (l.length + 1) = n + l.length + 1 by omega, b4, d3 n, show p + (l.length + 1) = p + 1 + l.length by omega]
/-- how the class keeps a LAW -/
def cEnc (μ : Mm) (T P : Nat) : List Br → List Int32 → Nat → Prop
  | [], l, p => seg μ 37 T p (l ++ [-15]) ∧ p + l.length + 1 ≤ P
  | b :: bs, l, p => ∃ p', p' = p + b.1.length + b.2.1.length + 2 + b.2.2.length + 1 ∧ seg μ 37 T p (b.1 ++ (b.2.1 ++ [-14, nI p'] ++ (b.2.2 ++ [-15]))) ∧ p' ≤ P ∧ cEnc μ T P bs l p'
def lok (bs : List Br) (l : List Int32) : Prop := (∀ b ∈ bs, eok b.1 ∧ eok b.2.1 ∧ eok b.2.2) ∧ eok l
theorem cEnc_ag {T P : Nat} {μ μ' : Mm} (h : ∀ j, gi μ' 37 T j = gi μ 37 T j) : ∀ (bs : List Br) (l : List Int32) (p : Nat), cEnc μ T P bs l p → cEnc μ' T P bs l p
  | [], l, p, q => ⟨fun k hk => (h _).trans (q.1 k hk), q.2⟩
  | b :: bs, l, p, q => by
    obtain ⟨p', q1, q2, q3, q4⟩ := q
    exact ⟨p', q1, fun k hk => (h _).trans (q2 k hk), q3, cEnc_ag h bs l p' q4⟩
theorem cEnc_lt {T P : Nat} {μ : Mm} : ∀ (bs : List Br) (l : List Int32) (p : Nat), cEnc μ T P bs l p → p < P
  | [], l, p, q => by have := q.2; omega
  | b :: bs, l, p, q => by
    obtain ⟨p', q1, q2, q3, q4⟩ := q
    omega
/-- an E of the class, on an empty stack or on one number, and what comes behind it -/
theorem p_runE {F T P : Nat} {v : Nat → Int32} {μ : Mm} {l st : List Int32} {p : Nat} (hP2 : P ≤ 408) (hP : gi μ 8 T 5 = nI P) (hv : ∀ k, k < 9 → gi μ 39 T k = v k) (hl : eok l) (hs : seg μ 37 T p l) (hp : p + l.length ≤ P) (hst : st.length ≤ 1) (hk : stk μ 40 T st) : match evE v l with
    | none => ∃ μ', agr 40 T μ μ' ∧ ∀ n, l.length ≤ n → fX8_run_L8 F n T (nI st.length) (nI p) μ = some (0, μ')
    | some x => ∃ μ', agr 40 T μ μ' ∧ stk μ' 40 T (x :: st) ∧ ∀ n, fX8_run_L8 F (n + l.length) T (nI st.length) (nI p) μ = fX8_run_L8 F n T (nI (st.length + 1)) (nI (p + l.length)) μ' := by
  have h1 : hts 16 l st.length = some (st.length + 1) := by
    have h2 := hts_sh (k := st.length) l 15 0 1 hl.1
    have h3 := hts_mono (M' := 16) (by omega) l _ _ h2
    rw [Nat.zero_add, Nat.add_comm 1] at h3
    exact h3
  have r := p_runs (F := F) hP2 (M := 16) (by decide) l st p _ μ hs hl.2 hp hP hv h1 (by omega) hk
  rw [evE_on hl] at r
  cases e : evE v l with
  | none =>
    rw [e] at r
    obtain ⟨μ1, b1, b2⟩ := r
    refine ⟨μ1, b1, fun n hn => ?_⟩
    have b3 := b2 (n - l.length)
    rw [Nat.sub_add_cancel hn] at b3
    exact b3
  | some x =>
    rw [e] at r
    obtain ⟨μ1, b1, b2, b3⟩ := r
    exact ⟨μ1, b1, b2, b3⟩
/-- GIVE -/
theorem p_give {F T P n p : Nat} {μ : Mm} {x : Int32} (hP2 : P ≤ 408) (hP : gi μ 8 T 5 = nI P) (hp : p < P) (hc : gi μ 37 T p = -15) (hk : stk μ 40 T [x]) : fX8_run_L8 F (n + 1) T (nI 1) (nI p) μ = some (x, μ) := by
  rw [fX8_run_L8, if_neg (by rw [hP, nn_le (by omega) (by omega)]; omega), if_pos ((nn_inb (by omega)).mpr (by omega)), nn_cl (by omega), hc, if_pos (by decide), if_pos rfl, if_neg (by decide), show nI 1 - 1 = nI 0 from rfl, if_pos (by decide), nn_cl (by decide)]
  rw [show gi μ 40 T 0 = x from stk_top hk]
/-- UNLESS -/
theorem p_unless {F T P n p p' : Nat} {μ : Mm} {x y : Int32} (hP2 : P ≤ 408) (hP : gi μ 8 T 5 = nI P) (hp : p + 2 ≤ p') (hp2 : p' ≤ P) (hc : gi μ 37 T p = -14) (hc2 : gi μ 37 T (p + 1) = nI p') (hk : stk μ 40 T [y, x]) : fX8_run_L8 F (n + 1) T (nI 2) (nI p) μ = fX8_run_L8 F n T (nI 0) (nI (if x < y then p + 2 else p')) μ := by
  have hy : gi μ 40 T 1 = y := stk_top hk
  have hx : gi μ 40 T 0 = x := stk_two hk
  rw [fX8_run_L8, if_neg (by rw [hP, nn_le (by omega) (by omega)]; omega), if_pos ((nn_inb (by omega)).mpr (by omega)), nn_cl (by omega), hc, if_pos (by decide), if_neg (by decide), if_pos (by decide), show nI 2 - 2 = nI 0 from rfl, show nI 2 - 1 = nI 1 from rfl, if_pos (by decide), if_pos (by decide), if_pos rfl, nn_cl (by decide), nn_cl (by decide), hy, hx]
  have e0 : nI 2 + (-2) = nI 0 := by decide
  by_cases hxy : x < y
  · rw [if_neg (by rw [i_le]; rw [i_lt] at hxy; omega), if_pos hxy]
    unfold fX8_run_L152 fX8_run_L190
    rw [e0, nn_s, nn_s]
  · rw [if_pos (by rw [i_le]; rw [i_lt] at hxy; omega), if_neg hxy]
    have hj : fX8_jump F T (nI p) μ = some (nI (p' - 1), μ) := by
      unfold fX8_jump
      rw [nn_s, hP, if_neg (by rw [nn_le (by omega) (by omega)]; omega), if_pos ((nn_inb (by omega)).mpr (by omega)), nn_cl (by omega), hc2]
      unfold fX8_jump_L25
      rw [nn_s, show (1 : Int32) = nI 1 from rfl, nn_sub (by omega)]
      unfold mx
      split
      · rfl
      · rename_i q
        rw [nn_lt (by omega) (by omega)] at q
        rw [show p + 1 = p' - 1 by omega]
    rw [hj, bd2_s]
    unfold fX8_run_L152 fX8_run_L190
    rw [e0, nn_s, show p' - 1 + 1 = p' by omega]
theorem p_law {F T P : Nat} {v : Nat → Int32} (hP2 : P ≤ 408) : ∀ (bs : List Br) (l : List Int32) (p : Nat) (μ : Mm), lok bs l → cEnc μ T P bs l p → gi μ 8 T 5 = nI P → (∀ k, k < 9 → gi μ 39 T k = v k) → ∃ μ', agr 40 T μ μ' ∧ ∀ n, P < n + p → fX8_run_L8 F n T (nI 0) (nI p) μ = some (lawE v bs l, μ')
  | [], l, p, μ, hl, hc, hP, hv => by
    obtain ⟨c1, c2⟩ := hc
    rw [seg_app] at c1
    have r := p_runE (F := F) (st := []) hP2 hP hv hl.2 c1.1 (by omega) (by simp) (fun k hk => absurd hk (Nat.not_lt_zero _))
    unfold lawE
    cases e : evE v l with
    | none =>
      rw [e] at r
      obtain ⟨μ1, b1, b2⟩ := r
      exact ⟨μ1, b1, fun n hn => b2 n (by omega)⟩
    | some x =>
      rw [e] at r
      obtain ⟨μ1, b1, b2, b3⟩ := r
      refine ⟨μ1, b1, fun n hn => ?_⟩
      have b4 := b3 (n - l.length)
      rw [Nat.sub_add_cancel (by omega)] at b4
      refine b4.trans ?_
      obtain ⟨n', hn'⟩ : ∃ n', n - l.length = n' + 1 := ⟨n - l.length - 1, by omega⟩
      rw [hn']
      exact p_give hP2 ((b1.1 _ _ _ (by omega)).trans hP) (by omega) ((b1.1 _ _ _ (by omega)).trans (seg_hd c1.2)) b2
  | b :: bs, l, p, μ, hl, hc, hP, hv => by
    obtain ⟨p', c0, c1, c2, c3⟩ := hc
    obtain ⟨o1, o2, o3⟩ := hl.1 b List.mem_cons_self
    rw [seg_app, seg_app, seg_app, seg_app] at c1
    obtain ⟨c4, ⟨c5, c6⟩, c7, c8⟩ := c1
    have r := p_runE (F := F) (st := []) hP2 hP hv o1 c4 (by omega) (by simp) (fun k hk => absurd hk (Nat.not_lt_zero _))
    unfold lawE
    cases e : evE v b.1 with
    | none =>
      rw [e] at r
      obtain ⟨μ1, b1, b2⟩ := r
      exact ⟨μ1, b1, fun n hn => b2 n (by omega)⟩
    | some x =>
      rw [e] at r
      obtain ⟨μ1, b1, b2, b3⟩ := r
      have hP1 := (b1.1 8 T 5 (by omega)).trans hP
      have hv1 : ∀ k, k < 9 → gi μ1 39 T k = v k := fun k hk => (b1.1 _ _ _ (by omega)).trans (hv k hk)
      have r2 := p_runE (F := F) (st := [x]) hP2 hP1 hv1 o2 (seg_agr b1 (by omega) c5) (by omega) (by simp) b2
      cases e2 : evE v b.2.1 with
      | none =>
        rw [e2] at r2
        obtain ⟨μ2, d1, d2⟩ := r2
        refine ⟨μ2, agr_tr b1 d1, fun n hn => ?_⟩
        have b4 := b3 (n - b.1.length)
        rw [Nat.sub_add_cancel (by omega)] at b4
        exact b4.trans (d2 _ (by omega))
      | some y =>
        rw [e2] at r2
        obtain ⟨μ2, d1, d2, d3⟩ := r2
        have hb := agr_tr b1 d1
        have hP3 := (hb.1 8 T 5 (by omega)).trans hP
        have hv3 : ∀ k, k < 9 → gi μ2 39 T k = v k := fun k hk => (hb.1 _ _ _ (by omega)).trans (hv k hk)
        have c6' := seg_agr hb (by omega) c6
        have w1 : gi μ2 37 T (p + b.1.length + b.2.1.length) = -14 := seg_hd c6'
        have w2 : gi μ2 37 T (p + b.1.length + b.2.1.length + 1) = nI p' := seg_hd (seg_tl c6')
        have run : ∀ n, P < n + p → fX8_run_L8 F n T (nI 0) (nI p) μ = fX8_run_L8 F (n - b.1.length - b.2.1.length - 1) T (nI 0) (nI (if x < y then p + b.1.length + b.2.1.length + 2 else p')) μ2 := fun n hn => by
          have b4 := b3 (n - b.1.length)
          rw [Nat.sub_add_cancel (by omega)] at b4
          refine b4.trans ?_
          have d4 := d3 (n - b.1.length - b.2.1.length)
          rw [Nat.sub_add_cancel (by omega)] at d4
          refine d4.trans ?_
          obtain ⟨n', hn'⟩ : ∃ n', n - b.1.length - b.2.1.length = n' + 1 := ⟨n - b.1.length - b.2.1.length - 1, by omega⟩
          rw [hn', Nat.add_sub_cancel]
          exact p_unless hP2 hP3 (by omega) c2 w1 w2 d2
        show ∃ μ', agr 40 T μ μ' ∧ ∀ n, P < n + p → fX8_run_L8 F n T (nI 0) (nI p) μ = some (if x < y then (evE v b.2.2).getD 0 else lawE v bs l, μ')
        by_cases hxy : x < y
        · rw [if_pos hxy]
          have len2 : ([-14, nI p'] : List Int32).length = 2 := rfl
          simp only [List.length_append, len2] at c7 c8
          have r3 := p_runE (F := F) (st := []) hP2 hP3 hv3 o3 (seg_agr hb (by omega) c7) (by omega) (by simp) (fun k hk => absurd hk (Nat.not_lt_zero _))
          cases e3 : evE v b.2.2 with
          | none =>
            rw [e3] at r3
            obtain ⟨μ4, f1, f2⟩ := r3
            refine ⟨μ4, agr_tr hb f1, fun n hn => ?_⟩
            rw [run n hn, if_pos hxy, show p + b.1.length + b.2.1.length + 2 = p + b.1.length + (b.2.1.length + 2) by omega]
            exact f2 _ (by omega)
          | some w =>
            rw [e3] at r3
            obtain ⟨μ4, f1, f2, f3⟩ := r3
            refine ⟨μ4, agr_tr hb f1, fun n hn => ?_⟩
            rw [run n hn, if_pos hxy, show p + b.1.length + b.2.1.length + 2 = p + b.1.length + (b.2.1.length + 2) by omega]
            have f4 := f3 (n - b.1.length - b.2.1.length - 1 - b.2.2.length)
            rw [Nat.sub_add_cancel (by omega)] at f4
            refine f4.trans ?_
            obtain ⟨n', hn'⟩ : ∃ n', n - b.1.length - b.2.1.length - 1 - b.2.2.length = n' + 1 := ⟨n - b.1.length - b.2.1.length - 1 - b.2.2.length - 1, by omega⟩
            rw [hn']
            have hb4 := agr_tr hb f1
            exact p_give hP2 ((hb4.1 _ _ _ (by omega)).trans hP) (by omega) ((hb4.1 _ _ _ (by omega)).trans (seg_hd c8)) f2
        · rw [if_neg hxy]
          obtain ⟨μ4, f1, f2⟩ := p_law (F := F) hP2 bs l p' μ2 ⟨fun b hb => hl.1 b (List.mem_cons_of_mem _ hb), hl.2⟩ (cEnc_ag (fun j => hb.1 _ _ _ (by omega)) bs l p' c3) hP3 hv3
          refine ⟨μ4, agr_tr hb f1, fun n hn => ?_⟩
          rw [run n hn, if_neg hxy]
          exact f2 _ (by omega)
