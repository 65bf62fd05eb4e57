/-! PURE: LAWS of the reference -/
/-- a code as the reference has it -/
def rc (c : Int32) : Int32 × Int32 := if -10 < c.toInt then (if 0 ≤ c.toInt then (0, c) else (1, -1 - c)) else (-8 - c, 0)
def rseg (ν : Mm) (p : Nat) (l : List Int32) : Prop := p + l.length ≤ 840 ∧ ∀ k, (h : k < l.length) → gi ν 70 0 (p + k) = (rc l[k]).1 ∧ gi ν 71 0 (p + k) = (rc l[k]).2
theorem rseg_tl {ν : Mm} {p : Nat} {x : Int32} {l : List Int32} (h : rseg ν p (x :: l)) : rseg ν (p + 1) l := by
  have h0 := h.1
  simp only [List.length_cons] at h0
  refine ⟨by omega, fun k hk => ?_⟩
  have h1 := h.2 (k + 1) (by simp; omega)
  rw [show p + 1 + k = p + (k + 1) by omega]
  exact h1
theorem rseg_app {ν : Mm} {p : Nat} {l l' : List Int32} (h : rseg ν p (l ++ l')) : rseg ν p l ∧ rseg ν (p + l.length) l' := by
  have h0 := h.1
  simp only [List.length_append] at h0
  refine ⟨⟨by omega, fun k hk => ?_⟩, ⟨by omega, fun k hk => ?_⟩⟩
  · have h1 := h.2 k (by simp; omega)
    rw [List.getElem_append_left hk] at h1
    exact h1
  · have h1 := h.2 (l.length + k) (by simp; omega)
    rw [List.getElem_append_right (by omega)] at h1
    simp only [Nat.add_sub_cancel_left] at h1
    rw [Nat.add_assoc]
    exact h1
theorem rseg_ag {ν ν' : Mm} (h : ∀ j, gi ν' 70 0 j = gi ν 70 0 j ∧ gi ν' 71 0 j = gi ν 71 0 j) {p : Nat} {l : List Int32} (q : rseg ν p l) : rseg ν' p l := ⟨q.1, fun k hk => ⟨(h _).1.trans (q.2 k hk).1, (h _).2.trans (q.2 k hk).2⟩⟩
/-- the reference's run over one code -/
theorem p_term1 {F p h Q : Nat} {ν : Mm} {c : Int32} {st : List Int32} {v : Nat → Int32} (hv : ∀ k, k < 9 → gi ν 73 0 k = v k) (hp : p < Q) (hQ : Q ≤ 840) (hc : gi ν 70 0 p = (rc c).1 ∧ gi ν 71 0 p = (rc c).2) (hc2 : cdok c) (hl : st.length = h) (hh : h < 400) (hst : stk ν 74 0 st) (ht : -10 < c.toInt ∨ 2 ≤ h) : match ev1 v c st with
    | none => ∀ n, fX12_termOf_L5 F (n + 1) (nI Q) (nI h) (nI p) ν = some (0, si ν 12 0 44 1)
    | some st' => ∃ ν', agr 74 0 ν ν' ∧ stk ν' 74 0 st' ∧ ∀ n, fX12_termOf_L5 F (n + 1) (nI Q) (nI h) (nI p) ν = fX12_termOf_L5 F n (nI Q) (nI st'.length) (nI (p + 1)) ν' := by
  have hg : ¬ nI Q ≤ nI p := by
    rw [nn_le (by omega) (by omega)]
    omega
  have hi : inb (nI p) 840 = true := (nn_inb (by omega)).mpr (by omega)
  obtain ⟨c70, c71⟩ := hc
  unfold ev1
  by_cases h1 : -10 < c.toInt
  · rw [if_pos h1]
    have e : rc c = if 0 ≤ c.toInt then (0, c) else (1, -1 - c) := by
      unfold rc
      rw [if_pos h1]
    rw [e] at c70 c71
    have h32 : inb (nI h) 400 = true := (nn_inb (by omega)).mpr hh
    refine ⟨si ν 74 0 h (if 0 ≤ c.toInt then c else v (-1 - c.toInt).toNat), agr_si, ?_, fun n => ?_⟩
    · subst hl
      exact stk_push hst
    · rw [fX12_termOf_L5, if_neg hg, if_pos hi, nn_cl (by omega), c70, c71, List.length_cons, hl]
      by_cases h2 : 0 ≤ c.toInt
      · rw [if_pos h2]
        simp only [if_pos h2]
        rw [if_neg (by decide), if_pos trivial]
        unfold fX12_termOf_L58 fX12_termOf_L159
        rw [if_pos h32, nn_cl (by omega)]
        show fX12_termOf_L5 F n (nI Q) (nI h + 1) (nI p + 1) _ = _
        rw [nn_s, nn_s]
      · rw [if_neg h2]
        simp only [if_neg h2]
        have h3 : (-1 - c).toInt = -1 - c.toInt := by
          rw [tz_sub (by rw [show (-1 : Int32).toInt = -1 from rfl]; omega)]
          rfl
        have h4 : (-1 - c).toNatClampNeg = (-1 - c.toInt).toNat := by
          unfold Int32.toNatClampNeg
          rw [h3]
        rw [if_neg (by decide), if_neg (by decide), if_pos (by rw [i_inb, h3]; omega), h4, hv _ (by omega)]
        unfold fX12_termOf_L58 fX12_termOf_L159
        rw [if_pos h32, nn_cl (by omega)]
        show fX12_termOf_L5 F n (nI Q) (nI h + 1) (nI p + 1) _ = _
        rw [nn_s, nn_s]
  · rw [if_neg h1]
    have ht2 : 2 ≤ h := by omega
    obtain ⟨b, a, st2, rfl⟩ : ∃ b a st2, st = b :: a :: st2 := by
      match st, hl with
      | [], hl => simp at hl; omega
      | [_], hl => simp at hl; omega
      | b :: a :: st2, _ => exact ⟨b, a, st2, rfl⟩
    simp only [List.length_cons] at hl
    have hb := stk_top hst
    simp only [List.length_cons] at hb
    have ha := stk_two hst
    have e : rc c = (-8 - c, 0) := by
      unfold rc
      rw [if_neg h1]
    rw [e] at c70
    have e1 : nI h + (-1) = nI (h - 1) := nn_m1 (by omega)
    have e2 : nI (h - 1) - 1 = nI (h - 2) := by rw [show (1 : Int32) = nI 1 from rfl, nn_sub (by omega)]; rfl
    have w : ∀ n, fX12_termOf_L5 F (n + 1) (nI Q) (nI h) (nI p) ν = if -8 - c = 5 then (if b = 0 then some (0, si ν 12 0 44 1) else fX12_termOf_L104 F (fun v2 v3 v4 μ => fX12_termOf_L5 F n v2 v3 v4 μ) (nI Q) (nI (h - 1)) (nI p) (-8 - c) a b ν) else fX12_termOf_L104 F (fun v2 v3 v4 μ => fX12_termOf_L5 F n v2 v3 v4 μ) (nI Q) (nI (h - 1)) (nI p) (-8 - c) a b ν := fun n => by
      have h2 : (2 : Int32) ≤ -8 - c := by
        rcases cd_neg h1 hc2 with q | q | q | q <;> subst q <;> decide
      rw [fX12_termOf_L5, if_neg hg, if_pos hi, nn_cl (by omega), c70, if_pos h2, e1, e2, if_pos ((nn_inb (by omega)).mpr (by omega)), if_pos ((nn_inb (by omega)).mpr (by omega)), nn_cl (by omega), nn_cl (by omega), show h - 1 = st2.length + 1 by omega, hb, show h - 2 = st2.length by omega, ha]
    have u : ∀ (x : Int32) (n : Nat), fX12_termOf_L158 F (fun v2 v3 v4 μ => fX12_termOf_L5 F n v2 v3 v4 μ) (nI Q) (nI (h - 1)) (nI p) (nI (h - 1) - 1) x ν = fX12_termOf_L5 F n (nI Q) (nI (x :: st2).length) (nI (p + 1)) (si ν 74 0 st2.length x) := fun x n => by
      unfold fX12_termOf_L158 fX12_termOf_L159
      rw [e2, if_pos ((nn_inb (by omega)).mpr (by omega)), nn_cl (by omega), show h - 2 = st2.length by omega, show h - 1 = (x :: st2).length by simp; omega]
      show fX12_termOf_L5 F n (nI Q) _ (nI p + 1) _ = _
      rw [nn_s]
    have fin : ∀ x : Int32, (∀ n, fX12_termOf_L5 F (n + 1) (nI Q) (nI h) (nI p) ν = fX12_termOf_L158 F (fun v2 v3 v4 μ => fX12_termOf_L5 F n v2 v3 v4 μ) (nI Q) (nI (h - 1)) (nI p) (nI (h - 1) - 1) x ν) → ∃ ν', agr 74 0 ν ν' ∧ stk ν' 74 0 (x :: st2) ∧ ∀ n, fX12_termOf_L5 F (n + 1) (nI Q) (nI h) (nI p) ν = fX12_termOf_L5 F n (nI Q) (nI (x :: st2).length) (nI (p + 1)) ν' := fun x hx =>
      ⟨_, agr_si, stk_op hst, fun n => (hx n).trans (u x n)⟩
    rcases cd_neg h1 hc2 with q | q | q | q
    · subst q
      exact fin (a + b) (fun n => w n)
    · subst q
      exact fin (a - b) (fun n => w n)
    · subst q
      exact fin (a * b) (fun n => w n)
    · subst q
      by_cases hb0 : b = 0
      · subst hb0
        exact fun n => (w n).trans rfl
      · show match (if b = 0 then none else some ((a / b) :: st2)) with
          | none => _
          | some st' => _
        rw [if_neg hb0]
        refine fin (a / b) (fun n => (w n).trans ?_)
        rw [if_pos (by decide), if_neg hb0]
        unfold fX12_termOf_L104
        rw [if_neg (by decide), if_neg (by decide), if_neg (by decide), if_neg hb0]
theorem p_terms {F Q : Nat} {v : Nat → Int32} (hQ : Q ≤ 840) {M : Nat} (hM : M ≤ 300) : ∀ (l st : List Int32) (p h' : Nat) (ν : Mm), rseg ν p l → (∀ c ∈ l, cdok c) → p + l.length = Q → (∀ k, k < 9 → gi ν 73 0 k = v k) → hts M l st.length = some h' → st.length ≤ 300 → stk ν 74 0 st → match evs v l st with
    | none => ∃ ν', agr 74 0 ν ν' ∧ ∀ n, l.length < n → fX12_termOf_L5 F n (nI Q) (nI st.length) (nI p) ν = some (0, si ν' 12 0 44 1)
    | some st' => ∃ ν', agr 74 0 ν ν' ∧ stk ν' 74 0 st' ∧ ∀ n, l.length < n → fX12_termOf_L5 F n (nI Q) (nI st.length) (nI p) ν = some (gi ν' 74 0 0, ν')
  | [], st, p, h', ν, hs, _, hp, _, _, _, hk => ⟨ν, agr_rfl, hk, fun n hn => by
      obtain ⟨n', rfl⟩ : ∃ n', n = n' + 1 := ⟨n - 1, by omega⟩
      simp at hp
      rw [fX12_termOf_L5, if_pos (by rw [nn_le (by omega) (by omega)]; omega)]⟩
  | c :: l, st, p, h', ν, hs, hc, hp, hv, ht, h31, hk => by
    obtain ⟨a1, a2, a3⟩ := hts_s ht
    simp only [List.length_cons] at hp
    have r := p_term1 (F := F) hv (by omega) hQ (show gi ν 70 0 p = (rc c).1 ∧ gi ν 71 0 p = (rc c).2 from hs.2 0 (by simp)) (hc c List.mem_cons_self) rfl (by omega) hk a1
    rw [evs_c]
    cases e : ev1 v c st with
    | none =>
      rw [e] at r
      refine ⟨ν, agr_rfl, fun n hn => ?_⟩
      obtain ⟨n', rfl⟩ : ∃ n', n = n' + 1 := ⟨n - 1, by omega⟩
      exact r n'
    | some s =>
      rw [e] at r
      obtain ⟨ν1, b1, b2, b4⟩ := r
      have e2 := ev1_len e a1
      rw [← e2] at a3
      have h32 : s.length ≤ 300 := by
        rw [e2]
        split
        · rename_i q
          have := a2 q
          omega
        · omega
      have r2 := p_terms (F := F) hQ hM l s (p + 1) h' ν1 (rseg_ag (fun j => ⟨b1.1 _ _ _ (by omega), b1.1 _ _ _ (by omega)⟩) (rseg_tl hs)) (fun d hd => hc d (List.mem_cons_of_mem _ hd)) (by omega) (fun k hk => (b1.1 _ _ _ (by omega)).trans (hv k hk)) a3 h32 b2
      show match evs v l s with
        | none => _
        | some st' => _
      cases e3 : evs v l s with
      | none =>
        rw [e3] at r2
        obtain ⟨ν2, d1, d2⟩ := r2
        refine ⟨ν2, agr_tr b1 d1, fun n hn => ?_⟩
        obtain ⟨n', rfl⟩ : ∃ n', n = n' + 1 := ⟨n - 1, by omega⟩
        rw [b4]
        exact d2 n' (by simp at hn; omega)
      | some s2 =>
        rw [e3] at r2
        obtain ⟨ν2, d1, d2, d3⟩ := r2
        refine ⟨ν2, agr_tr b1 d1, d2, fun n hn => ?_⟩
        obtain ⟨n', rfl⟩ : ∃ n', n = n' + 1 := ⟨n - 1, by omega⟩
        rw [b4]
        exact d3 n' (by simp at hn; omega)
/-- an E of the reference -/
theorem p_term {F p : Nat} {v : Nat → Int32} {ν : Mm} {l : List Int32} (hF : 1000 ≤ F) (hv : ∀ k, k < 9 → gi ν 73 0 k = v k) (hl : eok l) (hs : rseg ν p l) : match evE v l with
    | none => ∃ ν', agr 74 0 ν ν' ∧ fX12_termOf F (nI p) (nI (p + l.length)) ν = some (0, si ν' 12 0 44 1)
    | some x => ∃ ν', agr 74 0 ν ν' ∧ fX12_termOf F (nI p) (nI (p + l.length)) ν = some (x, ν') := by
  have h0 := hs.1
  have r := p_terms (F := F) (Q := p + l.length) h0 (M := 15) (by decide) l [] p 1 ν hs hl.2 rfl hv hl.1 (by simp) (fun k hk => absurd hk (Nat.not_lt_zero _))
  have r2 := evE_on (v := v) (r := []) hl
  rw [r2] at r
  cases e : evE v l with
  | none =>
    rw [e] at r
    obtain ⟨ν1, b1, b2⟩ := r
    exact ⟨ν1, b1, b2 F (by omega)⟩
  | some x =>
    rw [e] at r
    obtain ⟨ν1, b1, b2, b3⟩ := r
    refine ⟨ν1, b1, (b3 F (by omega)).trans ?_⟩
    rw [show gi ν1 74 0 0 = x from stk_top b2]
/-- the branches of a LAW -/
def rBr (ν : Mm) : List Br → List Int32 → Nat → Prop
  | [], l, b => gi ν 65 0 b = 0 ∧ ∃ p, gi ν 68 0 b = nI p ∧ gi ν 69 0 b = nI (p + l.length) ∧ rseg ν p l
  | x :: bs, l, b => gi ν 65 0 b = 1 ∧ (∃ p, gi ν 66 0 b = nI p ∧ gi ν 67 0 b = nI (p + x.1.length) ∧ gi ν 68 0 b = nI (p + x.1.length + x.2.1.length) ∧ gi ν 69 0 b = nI (p + x.1.length + x.2.1.length + x.2.2.length) ∧ rseg ν p (x.1 ++ (x.2.1 ++ x.2.2))) ∧ rBr ν bs l (b + 1)
theorem rBr_ag {ν ν' : Mm} (h : ∀ c j, 65 ≤ c → c ≤ 71 → gi ν' c 0 j = gi ν c 0 j) : ∀ (bs : List Br) (l : List Int32) (b : Nat), rBr ν bs l b → rBr ν' bs l b
  | [], l, b, q => by
    obtain ⟨q1, p, q2, q3, q4⟩ := q
    exact ⟨(h _ _ (by omega) (by omega)).trans q1, p, (h _ _ (by omega) (by omega)).trans q2, (h _ _ (by omega) (by omega)).trans q3, rseg_ag (fun j => ⟨h _ _ (by omega) (by omega), h _ _ (by omega) (by omega)⟩) q4⟩
  | x :: bs, l, b, q => by
    obtain ⟨q1, ⟨p, q2, q3, q4, q5, q6⟩, q7⟩ := q
    exact ⟨(h _ _ (by omega) (by omega)).trans q1, ⟨p, (h _ _ (by omega) (by omega)).trans q2, (h _ _ (by omega) (by omega)).trans q3, (h _ _ (by omega) (by omega)).trans q4, (h _ _ (by omega) (by omega)).trans q5, rseg_ag (fun j => ⟨h _ _ (by omega) (by omega), h _ _ (by omega) (by omega)⟩) q6⟩, rBr_ag h bs l (b + 1) q7⟩
/-- what the reference's evaluation of a LAW may write -/
def Pe (c i j : Nat) : Prop := (c = 74 ∧ i = 0) ∨ (c = 12 ∧ i = 0 ∧ j = 44)
theorem p_br {F : Nat} {v : Nat → Int32} (hF : 1000 ≤ F) {w : Nat} (hw : w < 8) : ∀ (bs : List Br) (l : List Int32) (b n : Nat) (ν : Mm), lok bs l → rBr ν bs l b → bs.length < n → b + bs.length < 260 → gi ν 64 0 w = nI (b + bs.length + 1) → gi ν 12 0 44 = 0 → (∀ k, k < 9 → gi ν 73 0 k = v k) → ∃ ν', ag Pe ν ν' ∧ fX12_lawTells_L39 F n (nI w) (nI b) ν = some (lawE v bs l, ν')
  | _, _, _, 0, _, _, _, h, _, _, _, _ => absurd h (Nat.not_lt_zero _)
  | [], l, b, n + 1, ν, hl, hb, hn, h260, h64, h44, hv => by
    obtain ⟨q1, p, q2, q3, q4⟩ := hb
    simp only [List.length_nil, Nat.add_zero] at h64 h260
    rw [fX12_lawTells_L39, if_pos ((nn_inb (by omega)).mpr hw), nn_cl (by omega), h64, if_neg (by rw [nn_le (by omega) (by omega)]; omega), if_pos ((nn_inb (by omega)).mpr h260), nn_cl (by omega), q1, if_pos rfl]
    unfold fX12_lawTells_L119
    rw [if_pos ((nn_inb (by omega)).mpr h260), nn_cl (by omega), q2, q3]
    have r := p_term hF hv hl.2 q4
    unfold lawE
    cases e : evE v l with
    | none =>
      rw [e] at r
      obtain ⟨ν1, b1, b2⟩ := r
      refine ⟨si ν1 12 0 44 1, ag_tr (ag_agr b1 (fun j => Or.inl ⟨rfl, rfl⟩)) (ag_si (Or.inr ⟨rfl, rfl, rfl⟩)), ?_⟩
      rw [b2, bd2_s, if_neg (by simp [gi_si])]
      rfl
    | some x =>
      rw [e] at r
      obtain ⟨ν1, b1, b2⟩ := r
      refine ⟨ν1, ag_agr b1 (fun j => Or.inl ⟨rfl, rfl⟩), ?_⟩
      rw [b2, bd2_s, if_pos ((b1.1 _ _ _ (by omega)).trans h44)]
      rfl
  | x :: bs, l, b, n + 1, ν, hl, hb, hn, h260, h64, h44, hv => by
    obtain ⟨q1, ⟨p, q2, q3, q4, q5, q6⟩, q7⟩ := hb
    simp only [List.length_cons] at h64 h260 hn
    obtain ⟨o1, o2, o3⟩ := hl.1 x List.mem_cons_self
    obtain ⟨s1, s2⟩ := rseg_app q6
    obtain ⟨s2, s3⟩ := rseg_app s2
    have i260 : inb (nI b) 260 = true := (nn_inb (by omega)).mpr (by omega)
    have start : fX12_lawTells_L39 F (n + 1) (nI w) (nI b) ν = bd2 (fX12_termOf F (nI p) (nI (p + x.1.length)) ν) fun r24 μ23 => bd2 (fX12_termOf F (gi μ23 67 0 b) (gi μ23 68 0 b) μ23) fun r30 μ29 => if (gi μ29 12 0 44) = 0 then (if r24 < r30 then (fX12_lawTells_L119 F (nI b) μ29) else (fX12_lawTells_L39 F n (nI w) (nI (b + 1)) μ29)) else (some (0, μ29)) := by
      rw [fX12_lawTells_L39, if_pos ((nn_inb (by omega)).mpr hw), nn_cl (by omega), h64, if_neg (by rw [nn_le (by omega) (by omega)]; omega), if_pos i260, nn_cl (by omega), q1, if_neg (by decide), q2, q3, nn_s]
    rw [start]
    have r := p_term hF hv o1 s1
    unfold lawE
    -- the second E, behind a first one that was or was not broken
    have second : ∀ (ν1 : Mm), ag Pe ν ν1 → ∃ ν2, ag Pe ν1 ν2 ∧ ((evE v x.2.1 = none ∧ gi ν2 12 0 44 = 1 ∧ fX12_termOf F (gi ν1 67 0 b) (gi ν1 68 0 b) ν1 = some (0, ν2)) ∨ ∃ y, evE v x.2.1 = some y ∧ gi ν2 12 0 44 = gi ν1 12 0 44 ∧ fX12_termOf F (gi ν1 67 0 b) (gi ν1 68 0 b) ν1 = some (y, ν2)) := fun ν1 a1 => by
      have n1 : ∀ c j, 65 ≤ c → c ≤ 73 → gi ν1 c 0 j = gi ν c 0 j := fun c j g1 g2 => a1.1 _ _ _ (by unfold Pe; omega)
      have r2 := p_term (ν := ν1) (p := p + x.1.length) hF (fun k hk => (n1 73 k (by omega) (by omega)).trans (hv k hk)) o2 (rseg_ag (fun j => ⟨n1 70 j (by omega) (by omega), n1 71 j (by omega) (by omega)⟩) s2)
      rw [n1 67 b (by omega) (by omega), n1 68 b (by omega) (by omega), q3, q4]
      cases e : evE v x.2.1 with
      | none =>
        rw [e] at r2
        obtain ⟨ν2, b1, b2⟩ := r2
        exact ⟨si ν2 12 0 44 1, ag_tr (ag_agr b1 (fun j => Or.inl ⟨rfl, rfl⟩)) (ag_si (Or.inr ⟨rfl, rfl, rfl⟩)), Or.inl ⟨rfl, by rw [gi_si]; rfl, b2⟩⟩
      | some y =>
        rw [e] at r2
        obtain ⟨ν2, b1, b2⟩ := r2
        exact ⟨ν2, ag_agr b1 (fun j => Or.inl ⟨rfl, rfl⟩), Or.inr ⟨y, rfl, b1.1 _ _ _ (by omega), b2⟩⟩
    cases e : evE v x.1 with
    | none =>
      rw [e] at r
      obtain ⟨ν1, b1, b2⟩ := r
      have a1 : ag Pe ν (si ν1 12 0 44 1) := ag_tr (ag_agr b1 (fun j => Or.inl ⟨rfl, rfl⟩)) (ag_si (Or.inr ⟨rfl, rfl, rfl⟩))
      obtain ⟨ν2, a2, q⟩ := second _ a1
      refine ⟨ν2, ag_tr a1 a2, ?_⟩
      rw [b2, bd2_s]
      rcases q with ⟨f1, f2, f3⟩ | ⟨y, f1, f2, f3⟩
      · rw [f3, bd2_s, if_neg (by rw [f2]; decide)]
      · rw [f3, bd2_s, if_neg (by rw [f2]; simp [gi_si])]
    | some u =>
      rw [e] at r
      obtain ⟨ν1, b1, b2⟩ := r
      have a1 : ag Pe ν ν1 := ag_agr b1 (fun j => Or.inl ⟨rfl, rfl⟩)
      obtain ⟨ν2, a2, q⟩ := second _ a1
      rw [b2, bd2_s]
      rcases q with ⟨f1, f2, f3⟩ | ⟨y, f1, f2, f3⟩
      · refine ⟨ν2, ag_tr a1 a2, ?_⟩
        rw [f3, bd2_s, if_neg (by rw [f2]; decide), f1]
      · have a12 := ag_tr a1 a2
        have h44b : gi ν2 12 0 44 = 0 := f2.trans ((b1.1 _ _ _ (by omega)).trans h44)
        have n2 : ∀ c j, 62 ≤ c → c ≤ 73 → gi ν2 c 0 j = gi ν c 0 j := fun c j g1 g2 => a12.1 _ _ _ (by unfold Pe; omega)
        rw [f3, bd2_s, if_pos h44b, f1]
        show ∃ ν', ag Pe ν ν' ∧ _ = some (if u < y then (evE v x.2.2).getD 0 else lawE v bs l, ν')
        by_cases huy : u < y
        · rw [if_pos huy, if_pos huy]
          unfold fX12_lawTells_L119
          rw [if_pos i260, nn_cl (by omega), n2 68 b (by omega) (by omega), n2 69 b (by omega) (by omega), q4, q5]
          have r3 := p_term (ν := ν2) (p := p + x.1.length + x.2.1.length) hF (fun k hk => (n2 73 k (by omega) (by omega)).trans (hv k hk)) o3 (rseg_ag (fun j => ⟨n2 70 j (by omega) (by omega), n2 71 j (by omega) (by omega)⟩) s3)
          cases e3 : evE v x.2.2 with
          | none =>
            rw [e3] at r3
            obtain ⟨ν3, g1, g2⟩ := r3
            refine ⟨si ν3 12 0 44 1, ag_tr a12 (ag_tr (ag_agr g1 (fun j => Or.inl ⟨rfl, rfl⟩)) (ag_si (Or.inr ⟨rfl, rfl, rfl⟩))), ?_⟩
            rw [g2, bd2_s, if_neg (by simp [gi_si])]
            rfl
          | some z =>
            rw [e3] at r3
            obtain ⟨ν3, g1, g2⟩ := r3
            refine ⟨ν3, ag_tr a12 (ag_agr g1 (fun j => Or.inl ⟨rfl, rfl⟩)), ?_⟩
            rw [g2, bd2_s, if_pos ((g1.1 _ _ _ (by omega)).trans h44b)]
            rfl
        · rw [if_neg huy, if_neg huy]
          obtain ⟨ν3, g1, g2⟩ := p_br hF hw bs l (b + 1) n ν2 ⟨fun b hb => hl.1 b (List.mem_cons_of_mem _ hb), hl.2⟩ (rBr_ag (fun c j g1 g2 => n2 c j (by omega) (by omega)) bs l (b + 1) q7) (by omega) (by omega) (by rw [n2 64 w (by omega) (by omega), h64]; congr 1; omega) h44b (fun k hk => (n2 73 k (by omega) (by omega)).trans (hv k hk))
          exact ⟨ν3, ag_tr a12 g1, g2⟩
/-- how the reference keeps a LAW: not told, or told -/
def rBx (ν : Mm) (lo hi : Nat) : List Br → List Int32 → Nat → Prop
  | [], l, b => gi ν 65 0 b = 0 ∧ ∃ p, gi ν 68 0 b = nI p ∧ gi ν 69 0 b = nI (p + l.length) ∧ rseg ν p l ∧ lo ≤ p ∧ p + l.length ≤ hi
  | x :: bs, l, b => gi ν 65 0 b = 1 ∧ (∃ p, gi ν 66 0 b = nI p ∧ gi ν 67 0 b = nI (p + x.1.length) ∧ gi ν 68 0 b = nI (p + x.1.length + x.2.1.length) ∧ gi ν 69 0 b = nI (p + x.1.length + x.2.1.length + x.2.2.length) ∧ rseg ν p (x.1 ++ (x.2.1 ++ x.2.2)) ∧ lo ≤ p ∧ p + x.1.length + x.2.1.length + x.2.2.length ≤ hi) ∧ rBx ν lo hi bs l (b + 1)
theorem rBx_rBr {ν : Mm} {lo hi : Nat} : ∀ (bs : List Br) (l : List Int32) (b : Nat), rBx ν lo hi bs l b → rBr ν bs l b
  | [], l, b, q => by
    obtain ⟨q1, p, q2, q3, q4, q5, q6⟩ := q
    exact ⟨q1, p, q2, q3, q4⟩
  | x :: bs, l, b, q => by
    obtain ⟨q1, ⟨p, q2, q3, q4, q5, q6, q7, q8⟩, q9⟩ := q
    exact ⟨q1, ⟨p, q2, q3, q4, q5, q6⟩, rBx_rBr bs l (b + 1) q9⟩
/-- it holds on where its branches and its codes are kept -/
theorem rBx_kp {ν ν' : Mm} {lo hi lo' hi' : Nat} (h1 : lo' ≤ lo) (h2 : hi ≤ hi') : ∀ (bs : List Br) (l : List Int32) (b : Nat), (∀ c j, 65 ≤ c → c ≤ 69 → b ≤ j → j ≤ b + bs.length → gi ν' c 0 j = gi ν c 0 j) → (∀ c j, c = 70 ∨ c = 71 → lo ≤ j → j < hi → gi ν' c 0 j = gi ν c 0 j) → rBx ν lo hi bs l b → rBx ν' lo' hi' bs l b
  | [], l, b, k1, k2, q => by
    obtain ⟨q1, p, q2, q3, q4, q5, q6⟩ := q
    have e := fun c g1 g2 => k1 c b g1 g2 (Nat.le_refl _) (Nat.le_add_right _ _)
    exact ⟨(e 65 (by omega) (by omega)).trans q1, p, (e 68 (by omega) (by omega)).trans q2, (e 69 (by omega) (by omega)).trans q3, ⟨q4.1, fun k hk => ⟨(k2 70 _ (Or.inl rfl) (by omega) (by omega)).trans (q4.2 k hk).1, (k2 71 _ (Or.inr rfl) (by omega) (by omega)).trans (q4.2 k hk).2⟩⟩, by omega, by omega⟩
  | x :: bs, l, b, k1, k2, q => by
    obtain ⟨q1, ⟨p, q2, q3, q4, q5, q6, q7, q8⟩, q9⟩ := q
    simp only [List.length_cons] at k1
    have e := fun c g1 g2 => k1 c b g1 g2 (Nat.le_refl _) (Nat.le_add_right _ _)
    refine ⟨(e 65 (by omega) (by omega)).trans q1, ⟨p, (e 66 (by omega) (by omega)).trans q2, (e 67 (by omega) (by omega)).trans q3, (e 68 (by omega) (by omega)).trans q4, (e 69 (by omega) (by omega)).trans q5, ⟨q6.1, fun k hk => ?_⟩, by omega, by omega⟩, rBx_kp h1 h2 bs l (b + 1) (fun c j g1 g2 g3 g4 => k1 c j g1 g2 (by omega) (by omega)) k2 q9⟩
    have hk' := hk
    simp only [List.length_append] at hk'
    exact ⟨(k2 70 _ (Or.inl rfl) (by omega) (by omega)).trans (q6.2 k hk).1, (k2 71 _ (Or.inr rfl) (by omega) (by omega)).trans (q6.2 k hk).2⟩
def rEnc (ν : Mm) (w : Nat) (bs : List Br) (l : List Int32) : Prop := ∃ b, gi ν 63 0 w = nI b ∧ gi ν 64 0 w = nI (b + bs.length + 1) ∧ (b + bs.length < 130 * (w / 4) + 130 ∧ 130 * (w / 4) ≤ b) ∧ rBx ν (420 * (w / 4)) (420 * (w / 4) + 420) bs l b
theorem p_lawR {F S k : Nat} {ν : Mm} {pl : Int32} {v : Nat → Int32} {bs : List Br} {l : List Int32} (hF : 1000 ≤ F) (hS : gi ν 12 0 18 = nI S) (hk : 4 * S + k < 8) (hl : lok bs l) (hr : rEnc ν (4 * S + k) bs l ∨ (gi ν 63 0 (4 * S + k) = gi ν 64 0 (4 * S + k) ∧ pl = lawE v bs l)) (hv : ∀ k, k < 9 → gi ν 73 0 k = v k) : ∃ ν', ag Pe ν ν' ∧ fX12_lawTells F (nI k) pl ν = some (lawE v bs l, ν') := by
  unfold fX12_lawTells
  rw [hS, show (4 : Int32) = nI 4 from rfl, nn_mul, nn_add, if_pos ((nn_inb (by omega)).mpr hk), nn_cl (by omega)]
  rcases hr with ⟨b, r1, r2, r3, r4⟩ | ⟨r1, r2⟩
  · rw [if_neg (by rw [r1, r2, nn_inj (by omega) (by omega)]; omega)]
    have a0 : ag Pe ν (si ν 12 0 44 0) := ag_si (Or.inr ⟨rfl, rfl, rfl⟩)
    have n0 : ∀ c j, 62 ≤ c → c ≤ 73 → gi (si ν 12 0 44 0) c 0 j = gi ν c 0 j := fun c j g1 g2 => a0.1 _ _ _ (by unfold Pe; omega)
    rw [n0 63 _ (by omega) (by omega), r1]
    obtain ⟨ν3, g1, g2⟩ := p_br (F := F) (v := v) hF hk bs l b F (si ν 12 0 44 0) hl (rBr_ag (fun c j g1 g2 => n0 c j (by omega) (by omega)) bs l b (rBx_rBr bs l b r4)) (by omega) (by omega) (by rw [n0 64 _ (by omega) (by omega), r2]) (by rw [gi_si]; rfl) (fun k hk => (n0 73 k (by omega) (by omega)).trans (hv k hk))
    exact ⟨ν3, ag_tr a0 g1, g2⟩
  · rw [if_pos r1, r2]
    exact ⟨ν, ag_rfl, rfl⟩
