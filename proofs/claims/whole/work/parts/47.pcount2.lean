theorem cntx {F T S n i : Nat} {X : Xt} {e : Es} {u s : Bool} {μ ν : Mm} (q1 : IB T S X u s μ ν) (q2 : IE (xn X) e μ ν) : gi μ 8 (tx (gi μ 11 0 2)) 0 = nI (xn X) ∧ gi ν 56 0 (gi ν 12 0 18).toNatClampNeg = nI (xn X) ∧ inb (gi ν 12 0 18) 2 = true ∧ (i < xn X → inb (nI i) 4 = true ∧ inb (nI i) 14 = true ∧ (nI i).toNatClampNeg = i ∧ tV (tgC μ i) ∧ gi ν 75 0 i = enc (tgC μ i)) := by
  obtain ⟨a1, a2, a3, a4, a5, a6, a7, a8, _⟩ := id q1
  have h4 := a3.1
  refine ⟨?_, ?_, ?_, fun hi => ?_⟩
  · rw [a4, tx_nI a1]
    exact a7.1
  · rw [a6, nn_cl (by omega)]
    exact a8.1
  · rw [a6]
    exact (nn_inb (by omega)).mpr a2
  · obtain ⟨t1, t2, t3, t4, t5, t6, t7⟩ := IE_sq q2 hi h4
    refine ⟨(nn_inb (by omega)).mpr (by omega), (nn_inb (by omega)).mpr (by omega), nn_cl (by omega), by rw [t1]; exact t4.1, by rw [t1]; exact t5⟩
theorem p_cnt4 {F T S : Nat} {X : Xt} {e : Es} {u s : Bool} {μ ν : Mm} (hF : 1000 ≤ F) (q1 : IB T S X u s μ ν) (q2 : IE (xn X) e μ ν) : ∀ (d n i : Nat) (v : Int32), i + d = xn X → d < n → ∃ r, fX11_allCrossings_L4 F n v (nI i) μ = some (r, μ) ∧ fX12_count_L110 F n v (nI i) ν = some (r, ν)
  | _, 0, _, _, _, h => absurd h (Nat.not_lt_zero _)
  | 0, n + 1, i, v, h1, h2 => by
    have h4 := q1.2.2.1.1
    obtain ⟨c1, c2, c3, c4⟩ := cntx (F := F) (n := n) (i := i) q1 q2
    rw [fX11_allCrossings_L4, fX12_count_L110, c1, c2, if_pos c3, if_pos (by rw [nn_le (by omega) (by omega)]; omega), if_pos (by rw [nn_le (by omega) (by omega)]; omega)]
    exact ⟨v, rfl, rfl⟩
  | d + 1, n + 1, i, v, h1, h2 => by
    have h4 := q1.2.2.1.1
    obtain ⟨c1, c2, c3, c4⟩ := cntx (F := F) (n := n) (i := i) q1 q2
    obtain ⟨k1, k2, k3, k4, k5⟩ := c4 (by omega)
    have w : ¬ nI (xn X) ≤ nI i := by
      rw [nn_le (by omega) (by omega)]
      omega
    rw [fX11_allCrossings_L4, fX12_count_L110, c1, c2, if_pos c3, if_neg w, if_neg w, if_pos k1, if_pos k2, k3, k5, p_crossC hF k4, p_crossR hF k4, bd2_s, bd2_s, nn_s]
    exact p_cnt4 hF q1 q2 d n (i + 1) _ (by omega) (by omega)
theorem p_cnt5 {F T S : Nat} {X : Xt} {e : Es} {u s : Bool} {μ ν : Mm} (hF : 1000 ≤ F) (q1 : IB T S X u s μ ν) (q2 : IE (xn X) e μ ν) : ∀ (d n i : Nat) (v : Int32), i + d = xn X → d < n → ∃ r, fX11_undoneSquares_L4 F n v (nI i) μ = some (r, μ) ∧ fX12_count_L145 F n v (nI i) ν = some (r, ν)
  | _, 0, _, _, _, h => absurd h (Nat.not_lt_zero _)
  | 0, n + 1, i, v, h1, h2 => by
    have h4 := q1.2.2.1.1
    obtain ⟨c1, c2, c3, c4⟩ := cntx (F := F) (n := n) (i := i) q1 q2
    rw [fX11_undoneSquares_L4, fX12_count_L145, c1, c2, if_pos c3, if_pos (by rw [nn_le (by omega) (by omega)]; omega), if_pos (by rw [nn_le (by omega) (by omega)]; omega)]
    exact ⟨v, rfl, rfl⟩
  | d + 1, n + 1, i, v, h1, h2 => by
    have h4 := q1.2.2.1.1
    obtain ⟨c1, c2, c3, c4⟩ := cntx (F := F) (n := n) (i := i) q1 q2
    obtain ⟨k1, k2, k3, k4, k5⟩ := c4 (by omega)
    have w : ¬ nI (xn X) ≤ nI i := by
      rw [nn_le (by omega) (by omega)]
      omega
    rw [fX11_undoneSquares_L4, fX12_count_L145, c1, c2, if_pos c3, if_neg w, if_neg w, if_pos k1, if_pos k2, k3, k5]
    unfold fX5_isUndone fX11_undoneSquares_L36 fX12_count_L176
    rw [show gi μ 5 i 0 = (tgC μ i).1 from rfl]
    by_cases z : (tgC μ i).1 = 0
    · rw [if_pos z, if_pos ((enc_300 k4).mpr z), bd2_s, if_neg n1_0, nn_s]
      exact p_cnt5 hF q1 q2 d n (i + 1) _ (by omega) (by omega)
    · rw [if_neg z, if_neg (fun y => z ((enc_300 k4).mp y)), bd2_s, if_pos rfl, nn_s]
      exact p_cnt5 hF q1 q2 d n (i + 1) _ (by omega) (by omega)
theorem p_cntE {F T S : Nat} {X : Xt} {e : Es} {u s : Bool} {μ ν : Mm} {w : Int32} (hF : 1000 ≤ F) (q1 : IB T S X u s μ ν) (q2 : IE (xn X) e μ ν) : ∀ (d n i : Nat) (v : Int32), i + d = xn X → d < n → ∃ r, fX11_squaresOfEnds_L4 F n w v (nI i) μ = some (r, μ) ∧ fX12_ofEnds_L4 F n w v (nI i) ν = some (r, ν)
  | _, 0, _, _, _, h => absurd h (Nat.not_lt_zero _)
  | 0, n + 1, i, v, h1, h2 => by
    have h4 := q1.2.2.1.1
    obtain ⟨c1, c2, c3, c4⟩ := cntx (F := F) (n := n) (i := i) q1 q2
    rw [fX11_squaresOfEnds_L4, fX12_ofEnds_L4, c1, c2, if_pos c3, if_pos (by rw [nn_le (by omega) (by omega)]; omega), if_pos (by rw [nn_le (by omega) (by omega)]; omega)]
    exact ⟨v, rfl, rfl⟩
  | d + 1, n + 1, i, v, h1, h2 => by
    have h4 := q1.2.2.1.1
    obtain ⟨c1, c2, c3, c4⟩ := cntx (F := F) (n := n) (i := i) q1 q2
    obtain ⟨k1, k2, k3, k4, k5⟩ := c4 (by omega)
    have wn : ¬ nI (xn X) ≤ nI i := by
      rw [nn_le (by omega) (by omega)]
      omega
    rw [fX11_squaresOfEnds_L4, fX12_ofEnds_L4, c1, c2, if_pos c3, if_neg wn, if_neg wn, if_pos k1, if_pos k2, k3, k5, p_endsC, p_endsR k4, bd2_s, bd2_s]
    unfold fX11_squaresOfEnds_L37 fX12_ofEnds_L36
    by_cases z : enS (tgC μ i) = w
    · rw [if_pos z, if_pos z, nn_s]
      exact p_cntE hF q1 q2 d n (i + 1) _ (by omega) (by omega)
    · rw [if_neg z, if_neg z, nn_s]
      exact p_cntE hF q1 q2 d n (i + 1) _ (by omega) (by omega)
def sumF (f : Nat → Int32) : Nat → Nat → Int32 → Int32
  | 0, _, v => v
  | d + 1, i, v => sumF f d (i + 1) (v + f i)
theorem sumF_4 {f : Nat → Int32} {n : Nat} (hn : n ≤ 4) (hz : ∀ i, n ≤ i → i < 4 → f i = 0) : sumF f n 0 0 = ((f 0 + f 1) + f 2) + f 3 := by
  rcases (show n = 0 ∨ n = 1 ∨ n = 2 ∨ n = 3 ∨ n = 4 by omega) with rfl | rfl | rfl | rfl | rfl
  · rw [hz 0 (by omega) (by omega), hz 1 (by omega) (by omega), hz 2 (by omega) (by omega), hz 3 (by omega) (by omega)]
    rfl
  · rw [hz 1 (by omega) (by omega), hz 2 (by omega) (by omega), hz 3 (by omega) (by omega)]
    simp [sumF]
  · rw [hz 2 (by omega) (by omega), hz 3 (by omega) (by omega)]
    simp [sumF]
  · rw [hz 3 (by omega) (by omega)]
    simp [sumF]
  · simp [sumF]
theorem p_cnt6 {F T S : Nat} {X : Xt} {e : Es} {u s : Bool} {μ ν : Mm} (q1 : IB T S X u s μ ν) (q2 : IE (xn X) e μ ν) : ∀ (d n i : Nat) (v : Int32), i + d = xn X → d < n → fX11_allTired_L4 F n v (nI i) μ = some (sumF (fun z => gi μ 5 z 2) d i v, μ) ∧ fX11_allCalled_L4 F n v (nI i) μ = some (sumF (fun z => gi μ 5 z 3) d i v, μ)
  | _, 0, _, _, _, h => absurd h (Nat.not_lt_zero _)
  | 0, n + 1, i, v, h1, h2 => by
    have h4 := q1.2.2.1.1
    obtain ⟨c1, c2, c3, c4⟩ := cntx (F := F) (n := n) (i := i) q1 q2
    rw [fX11_allTired_L4, fX11_allCalled_L4, c1, if_pos (by rw [nn_le (by omega) (by omega)]; omega), if_pos (by rw [nn_le (by omega) (by omega)]; omega)]
    exact ⟨rfl, rfl⟩
  | d + 1, n + 1, i, v, h1, h2 => by
    have h4 := q1.2.2.1.1
    obtain ⟨c1, c2, c3, c4⟩ := cntx (F := F) (n := n) (i := i) q1 q2
    obtain ⟨k1, k2, k3, k4, k5⟩ := c4 (by omega)
    have wn : ¬ nI (xn X) ≤ nI i := by
      rw [nn_le (by omega) (by omega)]
      omega
    rw [fX11_allTired_L4, fX11_allCalled_L4, c1, if_neg wn, if_neg wn, if_pos k1, if_pos k1, k3, nn_s, (p_cnt6 q1 q2 d n (i + 1) _ (by omega) (by omega)).1, (p_cnt6 q1 q2 d n (i + 1) _ (by omega) (by omega)).2]
    exact ⟨rfl, rfl⟩
theorem p_held {F n T S : Nat} {X : Xt} {u s : Bool} {μ ν : Mm} (hF : 1000 ≤ F) (hS : SL n μ ν) : ∃ r, fX1_heldSlots F μ = some (r, μ) ∧ (if (gi ν 90 0 0) = 0 then (fX12_count_L275 F 0 ν) else (fX12_count_L275 F 1 ν)) = some (r, ν) := by
  obtain ⟨m, hm⟩ : ∃ m, F = m + 4 := ⟨F - 4, by omega⟩
  have st : ∀ (n k : Nat) (v : Int32), k < 3 → fX1_heldSlots_L4 F (n + 1) v (nI k) μ = fX1_heldSlots_L4 F n (if gi ν 90 0 k = 0 then v else v + 1) (nI (k + 1)) μ := fun n k v hk => by
    rw [fX1_heldSlots_L4, show (3 : Int32) = nI 3 from rfl, if_neg (by rw [nn_le (by omega) (by omega)]; omega), if_pos ((nn_inb (by omega)).mpr hk), nn_cl (by omega), (hS k hk).1]
    unfold fX1_heldSlots_L21
    by_cases z : gi ν 90 0 k = 0
    · rw [if_pos z, if_pos z, nn_s]
    · rw [if_neg z, if_neg z, nn_s]
  have en : ∀ (n : Nat) (v : Int32), fX1_heldSlots_L4 F (n + 1) v (nI 3) μ = some (v, μ) := fun n v => by
    rw [fX1_heldSlots_L4, if_pos (by decide)]
  unfold fX1_heldSlots
  rw [show fX1_heldSlots_L4 F F 0 0 μ = fX1_heldSlots_L4 F (m + 4) 0 (nI 0) μ by rw [← hm]; rfl, st _ 0 _ (by omega), st _ 1 _ (by omega), st _ 2 _ (by omega), en]
  unfold fX12_count_L275 fX12_count_L289
  by_cases w0 : gi ν 90 0 0 = 0 <;> by_cases w1 : gi ν 90 0 1 = 0 <;> by_cases w2 : gi ν 90 0 2 = 0 <;> simp only [w0, w1, w2, if_true, if_false] <;> exact ⟨_, rfl, rfl⟩
theorem o_count {F : Nat} (hF : 1000 ≤ F) (a : Int32) : st2 Inv (fX11_count F a) (fX12_count F a) := fun u s μ ν q => by
  obtain ⟨T, S, X, e, q1, q2, q3⟩ := id q
  obtain ⟨a1, a2, a3, a4, a5, a6, a7, a8, a9, a10, a11, a12, _⟩ := id q1
  have h4 := a3.1
  obtain ⟨c1, c2, c3, _⟩ := cntx (F := F) (n := 0) (i := 0) q1 q2
  have fin : ∀ (f g : Option (Int32 × Mm)), (∃ r, f = some (r, μ) ∧ g = some (r, ν)) → ∃ r μ' ν', f = some (r, μ') ∧ g = some (r, ν') ∧ Inv u s μ' ν' := fun f g ⟨r, x, y⟩ => ⟨r, μ, ν, x, y, q⟩
  have z0' : (0 : Int32) = nI 0 := rfl
  unfold fX11_count fX12_count
  by_cases b0 : a = 0
  · rw [if_pos b0, if_pos b0, if_pos c3, c1, c2]
    exact fin _ _ ⟨_, rfl, rfl⟩
  rw [if_neg b0, if_neg b0]
  by_cases b1 : a = 1
  · rw [if_pos b1, if_pos b1, if_pos c3, a4, tx_nI a1, a6, nn_cl (by omega), a7.2.1, a8.2.1]
    exact fin _ _ ⟨_, rfl, rfl⟩
  rw [if_neg b1, if_neg b1]
  by_cases b2 : a = 2
  · rw [if_pos b2, if_pos b2, q2.1.2.1, q2.2.1.2.2.1]
    exact fin _ _ ⟨_, rfl, rfl⟩
  rw [if_neg b2, if_neg b2]
  by_cases b3 : a = 3
  · rw [if_pos b3, if_pos b3, q2.1.2.2, q2.2.1.2.2.2]
    exact fin _ _ ⟨_, rfl, rfl⟩
  rw [if_neg b3, if_neg b3]
  by_cases b4 : a = 4
  · rw [if_pos b4, if_pos b4]
    obtain ⟨r, r1, r2⟩ := p_cnt4 hF q1 q2 (xn X) F 0 0 (by omega) (by omega)
    unfold fX11_allCrossings
    rw [z0'] at *
    rw [r1, r2, bd2_s]
    exact fin _ _ ⟨_, rfl, rfl⟩
  rw [if_neg b4, if_neg b4]
  by_cases b5 : a = 5
  · rw [if_pos b5, if_pos b5]
    obtain ⟨r, r1, r2⟩ := p_cnt5 hF q1 q2 (xn X) F 0 0 (by omega) (by omega)
    unfold fX11_undoneSquares
    rw [z0'] at *
    rw [r1, r2, bd2_s]
    exact fin _ _ ⟨_, rfl, rfl⟩
  rw [if_neg b5, if_neg b5]
  have hq : ∀ i, i < 4 → gi μ 5 i 2 = gi ν 75 0 (4 + i) ∧ gi μ 5 i 3 = gi ν 75 0 (8 + i) := fun i hi => by
    have s1 := q2.1.1 i hi
    have s2 := q2.2.1.2.1 i hi
    exact ⟨(congrArg (fun z => z.2.1) s1).trans s2.1.symm, (congrArg (fun z => z.2.2) s1).trans s2.2.symm⟩
  have hz : ∀ i, xn X ≤ i → i < 4 → gi μ 5 i 2 = 0 ∧ gi μ 5 i 3 = 0 := fun i h1 h2 => by
    have s1 := q2.1.1 i h2
    have s3 := q2.2.2.2 i h1 h2
    exact ⟨(congrArg (fun z => z.2.1) s1).trans (congrArg Prod.fst s3), (congrArg (fun z => z.2.2) s1).trans (congrArg Prod.snd s3)⟩
  by_cases b6 : a = 6
  · rw [if_pos b6, if_pos b6]
    have r1 := (p_cnt6 (F := F) q1 q2 (xn X) F 0 0 (by omega) (by omega)).1
    rw [sumF_4 h4 (fun i g1 g2 => (hz i g1 g2).1)] at r1
    unfold fX11_allTired
    rw [z0'] at *
    rw [r1, bd2_s, (hq 0 (by omega)).1, (hq 1 (by omega)).1, (hq 2 (by omega)).1, (hq 3 (by omega)).1]
    exact fin _ _ ⟨_, rfl, rfl⟩
  rw [if_neg b6, if_neg b6]
  by_cases b7 : a = 7
  · rw [if_pos b7, if_pos b7]
    have r1 := (p_cnt6 (F := F) q1 q2 (xn X) F 0 0 (by omega) (by omega)).2
    rw [sumF_4 h4 (fun i g1 g2 => (hz i g1 g2).2)] at r1
    unfold fX11_allCalled
    rw [z0'] at *
    rw [r1, bd2_s, (hq 0 (by omega)).2, (hq 1 (by omega)).2, (hq 2 (by omega)).2, (hq 3 (by omega)).2]
    exact fin _ _ ⟨_, rfl, rfl⟩
  rw [if_neg b7, if_neg b7]
  by_cases b8 : a = 8
  · obtain ⟨L, _, t1, t2, _⟩ := a10
    rw [if_pos b8, if_pos b8, t1, t2]
    exact fin _ _ ⟨_, rfl, rfl⟩
  rw [if_neg b8, if_neg b8]
  by_cases b9 : a = 9
  · obtain ⟨L, nx, hs, _, _, t1, _, t2, _⟩ := q3
    rw [if_pos b9, if_pos b9, t1, t2]
    exact fin _ _ ⟨_, rfl, rfl⟩
  rw [if_neg b9, if_neg b9]
  by_cases b10 : a = 10
  · obtain ⟨L, _, t1, t2, _⟩ := a12
    rw [if_pos b10, if_pos b10, t1, t2]
    exact fin _ _ ⟨_, rfl, rfl⟩
  rw [if_neg b10, if_neg b10]
  by_cases b11 : a = 11
  · obtain ⟨r, r1, r2⟩ := p_held (F := F) (T := T) (S := S) (X := X) (u := u) (s := s) hF a9
    rw [if_pos b11, if_pos b11, r1, r2, bd2_s]
    exact fin _ _ ⟨_, rfl, rfl⟩
  rw [if_neg b11, if_neg b11]
  by_cases b12 : a = 12
  · obtain ⟨r, r1, r2⟩ := p_cntE (w := 0) hF q1 q2 (xn X) F 0 0 (by omega) (by omega)
    rw [if_pos b12, if_pos b12]
    unfold fX11_squaresOfEnds fX12_ofEnds
    rw [z0'] at *
    rw [r1, r2, bd2_s, bd2_s]
    exact fin _ _ ⟨_, rfl, rfl⟩
  rw [if_neg b12, if_neg b12]
  by_cases b13 : a = 13
  · obtain ⟨r, r1, r2⟩ := p_cntE (w := 2) hF q1 q2 (xn X) F 0 0 (by omega) (by omega)
    rw [if_pos b13, if_pos b13]
    unfold fX11_squaresOfEnds fX12_ofEnds
    rw [z0'] at *
    rw [r1, r2, bd2_s, bd2_s]
    exact fin _ _ ⟨_, rfl, rfl⟩
  rw [if_neg b13, if_neg b13]
  exact fin _ _ ⟨_, rfl, rfl⟩
