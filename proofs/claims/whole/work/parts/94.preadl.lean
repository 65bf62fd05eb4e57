/-! PURE: read, the beginning and the end -/
def FCl (T c i _ : Nat) : Prop := (c = 8 ∨ c = 37 ∨ c = 38) ∧ i = T
theorem p_short {F T k : Nat} {x : Int32} {μ : Mm} (hk : k < 4) (h5 : gi μ 8 T 5 = nI (2 * k)) : ∃ μ', fX8_addShortLaw F T (nI k) x μ = some μ' ∧ fr (FCl T) (fun _ => False) μ μ' ∧ gi μ' 8 T 5 = nI (2 * k + 2) ∧ gi μ' 38 T k = nI (2 * k) ∧ gi μ' 37 T (2 * k) = x ∧ gi μ' 37 T (2 * k + 1) = -15 ∧ (∀ j, j ≠ 5 → gi μ' 8 T j = gi μ 8 T j) ∧ (∀ j, j ≠ k → gi μ' 38 T j = gi μ 38 T j) ∧ ∀ j, j < 2 * k → gi μ' 37 T j = gi μ 37 T j := by
  unfold fX8_addShortLaw fX8_beginLaw
  rw [if_neg (nn_neg (by omega)), if_neg (show ¬ 4 ≤ nI k by rw [show (4 : Int32) = nI 4 from rfl, nn_le (by omega) (by omega)]; omega), if_pos ((nn_inb (by omega)).mpr hk), nn_cl (by omega), h5, bd1_s, p_addC (P := 2 * k) ((gi_ne (by omega)).trans h5) (by omega), bd1_s, p_addC gi_eq (by omega), bd1_s]
  refine ⟨_, rfl, ?_, gi_eq, ?_, ?_, ?_, fun j hj => ?_, fun j hj => ?_, fun j hj => ?_⟩
  · exact fr_tr (fr_tr (fr_tr (fr_tr (fr_si ⟨by omega, rfl⟩) (fr_si ⟨by omega, rfl⟩)) (fr_si ⟨by omega, rfl⟩)) (fr_si ⟨by omega, rfl⟩)) (fr_si ⟨by omega, rfl⟩)
  · rw [gi_ne (by omega), gi_ne (by omega), gi_ne (by omega), gi_ne (by omega), gi_eq]
  · rw [gi_ne (by omega), gi_ne (by omega), gi_ne (by omega), gi_eq]
  · rw [gi_ne (by omega), gi_eq]
  · rw [gi_ne (by omega), gi_ne (by omega), gi_ne (by omega), gi_ne (by omega), gi_ne (by omega)]
  · rw [gi_ne (by omega), gi_ne (by omega), gi_ne (by omega), gi_ne (by omega), gi_ne (by omega)]
  · rw [gi_ne (by omega), gi_ne (by omega), gi_ne (by omega), gi_ne (by omega), gi_ne (by omega)]
theorem p_clear {F T : Nat} {μ : Mm} : ∃ μ', fX8_clear F T μ = some μ' ∧ fr (FCl T) (fun _ => False) μ μ' ∧ (gi μ' 8 T 0 = 0 ∧ gi μ' 8 T 1 = 0 ∧ gi μ' 8 T 2 = 0 ∧ gi μ' 8 T 7 = 0 ∧ gi μ' 8 T 5 = nI 8) ∧ ∀ k, k < 4 → gi μ' 38 T k = nI (2 * k) ∧ cEnc μ' T 8 [] [dfl k] (2 * k) := by
  unfold fX8_clear
  generalize hμ0 : si (si (si (si (si μ 8 T 0 0) 8 T 1 0) 8 T 2 0) 8 T 7 0) 8 T 5 0 = μ0
  have f0 : fr (FCl T) (fun _ => False) μ μ0 := by
    rw [← hμ0]
    exact fr_tr (fr_tr (fr_tr (fr_tr (fr_si ⟨by omega, rfl⟩) (fr_si ⟨by omega, rfl⟩)) (fr_si ⟨by omega, rfl⟩)) (fr_si ⟨by omega, rfl⟩)) (fr_si ⟨by omega, rfl⟩)
  have z0 : gi μ0 8 T 0 = 0 ∧ gi μ0 8 T 1 = 0 ∧ gi μ0 8 T 2 = 0 ∧ gi μ0 8 T 7 = 0 ∧ gi μ0 8 T 5 = nI (2 * 0) := by
    rw [← hμ0]
    exact ⟨by rw [gi_ne (by omega), gi_ne (by omega), gi_ne (by omega), gi_ne (by omega), gi_eq], by rw [gi_ne (by omega), gi_ne (by omega), gi_ne (by omega), gi_eq], by rw [gi_ne (by omega), gi_ne (by omega), gi_eq], by rw [gi_ne (by omega), gi_eq], gi_eq⟩
  obtain ⟨μ1, a1, a2, a3, a4, a5, a6, a7, a8, a9⟩ := p_short (F := F) (k := 0) (x := -8) (by omega) z0.2.2.2.2
  obtain ⟨μ2, b1, b2, b3, b4, b5, b6, b7, b8, b9⟩ := p_short (F := F) (T := T) (k := 1) (x := 1) (by omega) a3
  obtain ⟨μ3, c1, c2, c3, c4, c5, c6, c7, c8, c9⟩ := p_short (F := F) (T := T) (k := 2) (x := -3) (by omega) b3
  obtain ⟨μ4, d1, d2, d3, d4, d5, d6, d7, d8, d9⟩ := p_short (F := F) (T := T) (k := 3) (x := 0) (by omega) c3
  have e8 : ∀ j, j ≠ 5 → gi μ4 8 T j = gi μ0 8 T j := fun j hj => (d7 j hj).trans ((c7 j hj).trans ((b7 j hj).trans (a7 j hj)))
  rw [show (0 : Int32) = nI 0 from rfl] at d1
  have a1' : fX8_addShortLaw F T 0 (-8) μ0 = some μ1 := a1
  have b1' : fX8_addShortLaw F T 1 1 μ1 = some μ2 := b1
  have c1' : fX8_addShortLaw F T 2 (-3) μ2 = some μ3 := c1
  have d1' : fX8_addShortLaw F T 3 0 μ3 = some μ4 := d1
  rw [a1', bd1_s, b1', bd1_s, c1', bd1_s, d1', bd1_s]
  refine ⟨μ4, rfl, fr_tr f0 (fr_tr a2 (fr_tr b2 (fr_tr c2 d2))), ⟨(e8 0 (by omega)).trans z0.1, (e8 1 (by omega)).trans z0.2.1, (e8 2 (by omega)).trans z0.2.2.1, (e8 7 (by omega)).trans z0.2.2.2.1, d3⟩, fun k hk => ?_⟩
  have en : ∀ (x : Int32), gi μ4 37 T (2 * k) = x → gi μ4 37 T (2 * k + 1) = -15 → cEnc μ4 T 8 [] [x] (2 * k) := fun x h1 h2 => ⟨fun z hz => by
    simp only [List.length_append, List.length_cons, List.length_nil] at hz
    rcases (show z = 0 ∨ z = 1 by omega) with rfl | rfl
    · exact h1
    · exact h2, by simp; omega⟩
  rcases (show k = 0 ∨ k = 1 ∨ k = 2 ∨ k = 3 by omega) with rfl | rfl | rfl | rfl
  · exact ⟨(d8 0 (by omega)).trans ((c8 0 (by omega)).trans ((b8 0 (by omega)).trans a4)), en _ ((d9 _ (by omega)).trans ((c9 _ (by omega)).trans ((b9 _ (by omega)).trans a5))) ((d9 _ (by omega)).trans ((c9 _ (by omega)).trans ((b9 _ (by omega)).trans a6)))⟩
  · exact ⟨(d8 1 (by omega)).trans ((c8 1 (by omega)).trans b4), en _ ((d9 _ (by omega)).trans ((c9 _ (by omega)).trans b5)) ((d9 _ (by omega)).trans ((c9 _ (by omega)).trans b6))⟩
  · exact ⟨(d8 2 (by omega)).trans c4, en _ ((d9 _ (by omega)).trans c5) ((d9 _ (by omega)).trans c6)⟩
  · exact ⟨d4, en _ d5 d6⟩
theorem p_plain {F S : Nat} {ν : Mm} (hF : 1000 ≤ F) (hS : S < 2) : ∃ ν', fX12_plain F (nI S) ν = some ν' ∧ fr (fun c _ j => ((c = 56 ∨ c = 57 ∨ c = 62) ∧ j = S) ∨ ((c = 63 ∨ c = 64) ∧ 4 * S ≤ j ∧ j < 4 * S + 4)) (fun _ => False) ν ν' ∧ gi ν' 56 0 S = 0 ∧ gi ν' 57 0 S = 0 ∧ gi ν' 62 0 S = 0 ∧ ∀ k, k < 4 → gi ν' 63 0 (4 * S + k) = 0 ∧ gi ν' 64 0 (4 * S + k) = 0 := by
  have L : ∀ (d n k : Nat) (ν : Mm), k + d = 4 → d < n → ∃ ν', fX12_plain_L23 F n (nI S) (nI k) ν = some ν' ∧ fr (fun c _ j => (c = 63 ∨ c = 64) ∧ 4 * S ≤ j ∧ j < 4 * S + 4) (fun _ => False) ν ν' ∧ (∀ z, k ≤ z → z < 4 → gi ν' 63 0 (4 * S + z) = 0 ∧ gi ν' 64 0 (4 * S + z) = 0) ∧ ∀ z, z < k → gi ν' 63 0 (4 * S + z) = gi ν 63 0 (4 * S + z) ∧ gi ν' 64 0 (4 * S + z) = gi ν 64 0 (4 * S + z) := by
    intro d
    induction d with
    | zero =>
      intro n k ν h1 h2
      obtain ⟨n, rfl⟩ : ∃ x, n = x + 1 := ⟨n - 1, by omega⟩
      rw [fX12_plain_L23, if_pos (by rw [show (4 : Int32) = nI 4 from rfl, nn_le (by omega) (by omega)]; omega)]
      exact ⟨ν, rfl, fr_rfl, fun z g1 g2 => by omega, fun z _ => ⟨rfl, rfl⟩⟩
    | succ d ih =>
      intro n k ν h1 h2
      obtain ⟨n, rfl⟩ : ∃ x, n = x + 1 := ⟨n - 1, by omega⟩
      rw [fX12_plain_L23, if_neg (by rw [show (4 : Int32) = nI 4 from rfl, nn_le (by omega) (by omega)]; omega), show (4 : Int32) = nI 4 from rfl, nn_mul, nn_add, if_pos ((nn_inb (by omega)).mpr (by omega)), nn_cl (by omega), nn_s]
      obtain ⟨ν', r1, r2, r3, r4⟩ := ih n (k + 1) (si (si ν 63 0 (4 * S + k) 0) 64 0 (4 * S + k) 0) (by omega) (by omega)
      refine ⟨ν', r1, fr_tr (fr_tr (fr_si ⟨Or.inl rfl, by omega, by omega⟩) (fr_si ⟨Or.inr rfl, by omega, by omega⟩)) r2, fun z g1 g2 => ?_, fun z g1 => ?_⟩
      · by_cases y : z = k
        · rw [(r4 z (by omega)).1, (r4 z (by omega)).2, y, gi_ne (by omega), gi_eq, gi_eq]
          exact ⟨rfl, rfl⟩
        · exact r3 z (by omega) g2
      · rw [(r4 z (by omega)).1, (r4 z (by omega)).2, gi_ne (by omega), gi_ne (by omega), gi_ne (by omega), gi_ne (by omega)]
        exact ⟨rfl, rfl⟩
  unfold fX12_plain
  rw [if_pos ((nn_inb (by omega)).mpr hS), nn_cl (by omega)]
  generalize hν0 : si (si (si ν 56 0 S 0) 57 0 S 0) 62 0 S 0 = ν0
  have f0 : fr (fun c _ j => ((c = 56 ∨ c = 57 ∨ c = 62) ∧ j = S) ∨ ((c = 63 ∨ c = 64) ∧ 4 * S ≤ j ∧ j < 4 * S + 4)) (fun _ => False) ν ν0 := by
    rw [← hν0]
    exact fr_tr (fr_tr (fr_si (Or.inl ⟨by omega, rfl⟩)) (fr_si (Or.inl ⟨by omega, rfl⟩))) (fr_si (Or.inl ⟨by omega, rfl⟩))
  obtain ⟨ν', r1, r2, r3, r4⟩ := L 4 F 0 ν0 rfl (by omega)
  have r1' : fX12_plain_L23 F F (nI S) 0 ν0 = some ν' := r1
  refine ⟨ν', r1', fr_tr f0 (fr_of r2 (fun c i j q => Or.inr q) (fun c q => q)), ?_, ?_, ?_, fun k hk => r3 k (Nat.zero_le _) hk⟩
  · rw [fr_n r2 (by omega), ← hν0, gi_ne (by omega), gi_ne (by omega), gi_eq]
  · rw [fr_n r2 (by omega), ← hν0, gi_ne (by omega), gi_eq]
  · rw [fr_n r2 (by omega), ← hν0, gi_eq]
/-- the loop over all that is told -/
theorem p_84L {F T n : Nat} {e : Int32 × Int32} {v2 : Int32} {μ : Mm} (h : DdC T e μ) : fX2_readInto_L41 F (n + 1) v2 μ = fX2_readInto_L84 F μ := by
  rw [fX2_readInto_L41, if_neg (c := gi μ 2 0 0 = 0) (dead_n h)]
  split <;> rfl
theorem p_loop {F T S N : Nat} {K : Nat → Tk} (hF : 1000 ≤ F) (hT : T < 2) (hS : S < 2) (g : Gk K N) : ∀ (n m t i : Nat) (D : Int32 × Int32) (X : (Nat × Nat × Int32) × (Nat → List (Int32 × Int32)) × (Nat → List (Int32 × Int32)) × (Nat → List Br × List Int32)) (μ ν : Mm), RD T S K N t D X μ ν → 402 - t < n → 402 - t < m → i ≤ t → ∃ μ' ν', fX2_readInto_L41 F n (nI i) μ = fX2_readInto_L84 F μ' ∧ fX12_read_L112 F m ν = fX12_read_L134 F ν' ∧ fr (FTC T) QRow μ μ' ∧ fr (FTR S) Q55 ν ν' ∧ ((∃ e, DdC T e μ' ∧ DdR e ν') ∨ ∃ t' D X, RD T S K N t' D X μ' ν')
  | 0, _, _, _, _, _, _, _, _, h, _, _ => absurd h (Nat.not_lt_zero _)
  | _ + 1, 0, _, _, _, _, _, _, _, _, h, _ => absurd h (Nat.not_lt_zero _)
  | n + 1, m + 1, t, i, D, X, μ, ν, h, hn, hm, hi => by
    have hr := h
    obtain ⟨nms, P, b, C, ⟨⟨hl, hlr, h12, h19⟩, _⟩, _⟩ := h
    have tN := hlr.2.2.2
    have hN := g.1.1
    have k34 := g.2.1 t
    have i0 := p_isR (F := F) (k := 33) g hlr (by omega)
    rw [show km 33 = 0 from rfl] at i0
    rw [fX2_readInto_L41, if_neg (by rw [show (400 : Int32) = nI 400 from rfl, nn_lt (by omega) (by omega)]; omega), if_pos hl.1, hl.2.2.2.1.2.1, fX12_read_L112, if_pos hlr.1, i0, bd2_s]
    by_cases y : tkd K t = 33
    · rw [if_pos (show nI (K t).1 = 33 by rw [show (K t).1 = 33 from y]; rfl), if_pos y, if_neg n1_0]
      exact ⟨μ, ν, rfl, rfl, fr_rfl, fr_rfl, Or.inr ⟨t, D, X, hr⟩⟩
    · obtain ⟨μ1, ν1, a1, a2, a3, a4, a5⟩ := p_tell (F := F) hF hT hS g hr
      rw [if_neg (show ¬ nI (K t).1 = 33 by rw [show (33 : Int32) = nI 33 from rfl, nn_inj (by omega) (by omega)]; exact y), if_neg y, if_pos rfl, a2, bd1_s]
      have a1' : fX2_readTell F (nI (K t).1) μ = some μ1 := a1
      rw [a1', bd1_s]
      rcases a5 with ⟨e, d1, d2⟩ | ⟨t', D', X', lt, rd⟩
      · obtain ⟨n, rfl⟩ : ∃ x, n = x + 1 := ⟨n - 1, by omega⟩
        obtain ⟨m, rfl⟩ : ∃ x, m = x + 1 := ⟨m - 1, by omega⟩
        rw [p_84L d1, fX12_read_L112, if_neg (deadR d2).1]
        exact ⟨μ1, ν1, rfl, rfl, a3, a4, Or.inl ⟨e, d1, d2⟩⟩
      · have rt : t' ≤ N := by
          obtain ⟨_, _, _, _, ⟨⟨_, q, _⟩, _⟩, _⟩ := rd
          exact q.2.2.2
        obtain ⟨μ', ν', b1, b2, b3, b4, b5⟩ := p_loop hF hT hS g n m t' (i + 1) D' X' μ1 ν1 rd (by omega) (by omega) (by omega)
        rw [nn_s]
        exact ⟨μ', ν', b1, b2, fr_tr a3 b3, fr_tr a4 b4, b5⟩
