/-! PURE: listen -/
def pk (M : Nat → Nat) : Nat → Nat → Int32 → Nat → Int32
  | 0, _, b, _ => b
  | d + 1, j, b, l => if l ≤ M j then pk M d (j + 1) b l else pk M d (j + 1) (nI (j + 1)) (M j)
def g3 (g : Nat → Nat) (j : Nat) : Nat := max (g (3 * j)) (max (g (3 * j + 1)) (g (3 * j + 2)))
theorem nn_mx {a b : Nat} (ha : a < 2147483648) (hb : b < 2147483648) : mx (nI a) (nI b) = nI (max a b) := by
  rw [i_eq, tz_mx, nI_toInt ha, nI_toInt hb, nI_toInt (by omega)]
  omega
theorem p_wtL {F w : Nat} {g : Nat → Nat} {μ : Mm} (hw : w ≤ 4) (hg : ∀ z, z < 12 → g z ≤ 625 ∧ gi μ 45 0 z = nI (g z)) : ∀ (d n j : Nat) (b : Int32) (l : Nat), j + d = w → d < n → l ≤ 626 → fX9_whereToListen_L22 F n (nI w) b (nI l) (nI j) μ = some (pk (g3 g) d j b l, μ)
  | _, 0, _, _, _, _, h, _ => absurd h (Nat.not_lt_zero _)
  | 0, n + 1, j, b, l, h1, h2, h3 => by
    rw [fX9_whereToListen_L22, if_pos (by rw [nn_le (by omega) (by omega)]; omega)]
    rfl
  | d + 1, n + 1, j, b, l, h1, h2, h3 => by
    obtain ⟨a0, b0⟩ := hg (3 * j) (by omega)
    obtain ⟨a1, b1⟩ := hg (3 * j + 1) (by omega)
    obtain ⟨a2, b2⟩ := hg (3 * j + 2) (by omega)
    have e : mx (nI (g (3 * j))) (mx (nI (g (3 * j + 1))) (nI (g (3 * j + 2)))) = nI (g3 g j) := by
      rw [nn_mx (by omega) (by omega), nn_mx (by omega) (by omega)]
      rfl
    have gb : g3 g j ≤ 625 := by
      unfold g3
      omega
    rw [fX9_whereToListen_L22, if_neg (by rw [nn_le (by omega) (by omega)]; omega), if_neg (by rw [show (4 : Int32) = nI 4 from rfl, nn_le (by omega) (by omega)]; omega), show (3 : Int32) = nI 3 from rfl, show (2 : Int32) = nI 2 from rfl, nn_mul, nn_s, nn_add, if_pos ((nn_inb (by omega)).mpr (by omega)), if_pos ((nn_inb (by omega)).mpr (by omega)), if_pos ((nn_inb (by omega)).mpr (by omega)), nn_cl (by omega), nn_cl (by omega), nn_cl (by omega), b0, b1, b2, e]
    unfold fX9_whereToListen_L87 pk
    by_cases y : l ≤ g3 g j
    · rw [if_pos ((nn_le (by omega) (by omega)).mpr y), if_pos y, nn_s]
      exact p_wtL hw hg d n (j + 1) b l (by omega) (by omega) h3
    · rw [if_neg (fun z => y ((nn_le (by omega) (by omega)).mp z)), if_neg y, nn_s]
      exact p_wtL hw hg d n (j + 1) (nI (j + 1)) (g3 g j) (by omega) (by omega) (by omega)
/-- the reference's greatest of three -/
theorem p_139 {F w : Nat} {g : Nat → Nat} {ν : Mm} {K : Int32 → Int32 → Int32 → Int32 → Int32 → Mm → Option (Int32 × Mm)} {v4 v5 v6 : Int32} {j : Nat} (hj : j < 4) (hg : ∀ z, z < 12 → g z ≤ 625 ∧ gi ν 89 0 (z + 3) = nI (g z)) (n : Nat) : fX12_listen_L139 F K (n + 4) (nI w) v4 v5 v6 (nI (j + 1)) 0 0 ν = if v5 < 0 then K (nI w) v4 (nI (j + 1)) (nI (g3 g j)) (nI (j + 2)) ν else if nI (g3 g j) < v6 then K (nI w) v4 (nI (j + 1)) (nI (g3 g j)) (nI (j + 2)) ν else K (nI w) v4 v5 v6 (nI (j + 2)) ν := by
  obtain ⟨a0, b0⟩ := hg (3 * j) (by omega)
  obtain ⟨a1, b1⟩ := hg (3 * j + 1) (by omega)
  obtain ⟨a2, b2⟩ := hg (3 * j + 2) (by omega)
  have a00 : g (3 * j + 0) ≤ 625 := a0
  have st : ∀ (n v z : Nat), z < 3 → v ≤ 625 → fX12_listen_L139 F K (n + 1) (nI w) v4 v5 v6 (nI (j + 1)) (nI v) (nI z) ν = fX12_listen_L139 F K n (nI w) v4 v5 v6 (nI (j + 1)) (nI (max v (g (3 * j + z)))) (nI (z + 1)) ν := fun n v z hz hv => by
    obtain ⟨a, b⟩ := hg (3 * j + z) (by omega)
    rw [fX12_listen_L139, show (3 : Int32) = nI 3 from rfl, if_neg (by rw [nn_le (by omega) (by omega)]; omega), nn_mul, nn_add, if_pos ((nn_inb (by omega)).mpr (by omega)), nn_cl (by omega), show 3 * (j + 1) + z = 3 * j + z + 3 by omega, b]
    unfold fX12_listen_L176
    rw [nn_s]
    by_cases y : g (3 * j + z) ≤ v
    · rw [if_pos ((nn_le (by omega) (by omega)).mpr y), Nat.max_eq_left y]
    · rw [if_neg (fun q => y ((nn_le (by omega) (by omega)).mp q)), Nat.max_eq_right (by omega)]
  rw [show fX12_listen_L139 F K (n + 4) (nI w) v4 v5 v6 (nI (j + 1)) 0 0 ν = fX12_listen_L139 F K (n + 3 + 1) (nI w) v4 v5 v6 (nI (j + 1)) (nI 0) (nI 0) ν from rfl, st (n + 3) 0 0 (by omega) (by omega), st (n + 2) _ 1 (by omega) (by omega), st (n + 1) _ 2 (by omega) (by omega), show max (max (max 0 (g (3 * j + 0))) (g (3 * j + 1))) (g (3 * j + 2)) = g3 g j by unfold g3; rw [Nat.add_zero]; omega, fX12_listen_L139, if_pos (by decide)]
  unfold fX12_listen_L197 fX12_listen_L205
  rw [nn_s]
theorem p_122 {F w : Nat} {g : Nat → Nat} {ν : Mm} (hF : 1000 ≤ F) (hw : w ≤ 4) (hg : ∀ z, z < 12 → g z ≤ 625 ∧ gi ν 89 0 (z + 3) = nI (g z)) : ∀ (d n j x l : Nat), j + d = w → d < n → l ≤ 626 → x ≤ 4 → fX12_listen_L122 F n (nI w) 1 (nI x) (nI l) (nI (j + 1)) ν = some (pk (g3 g) d j (nI x) l, ν)
  | _, 0, _, _, _, _, h, _, _ => absurd h (Nat.not_lt_zero _)
  | 0, n + 1, j, x, l, h1, h2, h3, h4 => by
    rw [fX12_listen_L122, if_pos (by rw [nn_lt (by omega) (by omega)]; omega)]
    rfl
  | d + 1, n + 1, j, x, l, h1, h2, h3, h4 => by
    have gb : g3 g j ≤ 625 := by
      have q0 := (hg (3 * j) (by omega)).1
      have q1 := (hg (3 * j + 1) (by omega)).1
      have q2 := (hg (3 * j + 2) (by omega)).1
      unfold g3
      omega
    have q := p_139 (F := F) (w := w) (ν := ν) (K := fun v3 v4 v5 v6 v7 μ => fX12_listen_L122 F n v3 v4 v5 v6 v7 μ) (v4 := 1) (v5 := nI x) (v6 := nI l) (j := j) (by omega) hg (F - 4)
    rw [show F - 4 + 4 = F by omega] at q
    rw [fX12_listen_L122, if_neg (by rw [nn_lt (by omega) (by omega)]; omega), if_neg n1_0, q, if_neg (nn_neg (by omega))]
    unfold pk
    by_cases y : l ≤ g3 g j
    · rw [if_neg (fun z => by rw [nn_lt (by omega) (by omega)] at z; omega), if_pos y]
      exact p_122 hF hw hg d n (j + 1) x l (by omega) (by omega) h3 h4
    · rw [if_pos (by rw [nn_lt (by omega) (by omega)]; omega), if_neg y]
      exact p_122 hF hw hg d n (j + 1) (j + 1) (g3 g j) (by omega) (by omega) (by omega) (by omega)
theorem p_l15 {F : Nat} {v1 v2 v3 : Int32} : ∀ (d n i : Nat) (ν : Mm), i + d = 15 → d < n → fX12_listen_L15 F n v1 v2 v3 (nI i) ν = fX12_listen_L42 F F v1 v2 v3 0 0 (bw ν 89 0 i 15 (fun _ => 0))
  | _, 0, _, _, _, h => absurd h (Nat.not_lt_zero _)
  | 0, n + 1, i, ν, h1, h2 => by
    rw [fX12_listen_L15, show (15 : Int32) = nI 15 from rfl, if_pos (by rw [nn_le (by omega) (by omega)]; omega), bw_0 (by omega)]
  | d + 1, n + 1, i, ν, h1, h2 => by
    rw [fX12_listen_L15, show (15 : Int32) = nI 15 from rfl, if_neg (by rw [nn_le (by omega) (by omega)]; omega), if_pos ((nn_inb (by omega)).mpr (by omega)), nn_cl (by omega), nn_s, p_l15 d n (i + 1) _ (by omega) (by omega), bw_s (g := fun _ => 0) (by omega) rfl (fun _ _ _ => rfl)]
theorem o_listen {F : Nat} (hF : 1000 ≤ F) (a b c : Int32) : st2 Inv (fX11_listen F a b c) (fX12_listen F a b c) := fun u s μ ν q => by
  obtain ⟨T, S, X, e, q1, q2, q3⟩ := id q
  obtain ⟨a1, a2, a3, a4, a5, a6, a7, a8, a9, a10, a11, a12, _⟩ := id q1
  have h4 := a3.1
  obtain ⟨K, hK, t1, t2, t3⟩ := a12
  unfold fX11_listen fX12_listen fX12_isAsked fX9_canHear
  rw [t2]
  have kT : (nI K).toInt = K := nI_toInt (by omega)
  rcases p_sq (F := F) q1 b with ⟨i, hi, rfl, hc, hr⟩ | ⟨hc, hr⟩
  · rw [hc, bd2_s, oel_s, t1]
    by_cases w1 : a.toInt < 0
    · rw [if_pos (i_lt0.mpr w1), p_in0 (x := 0) (y := K) rfl kT (by omega), bd2_s, bd2_s, if_pos rfl, if_pos rfl, bd2_s, if_pos rfl]
      exact ⟨_, μ, ν, rfl, rfl, q⟩
    rw [if_neg (c := a < 0) (fun z => w1 (i_lt0.mp z))]
    by_cases w2 : (K : Int) < a.toInt
    · rw [if_pos (show nI K < a from i_lt.mpr (by rw [kT]; exact w2)), p_in0 (x := 0) (y := K) rfl kT (by omega), bd2_s, bd2_s, if_pos rfl, if_pos rfl, bd2_s, if_pos rfl]
      exact ⟨_, μ, ν, rfl, rfl, q⟩
    rw [if_neg (c := nI K < a) (fun z => w2 (by have := i_lt.mp z; rw [kT] at this; exact this)), p_in1 (x := 0) (y := K) rfl kT (by omega), bd2_s, if_neg n1_0, hr, bd2_s, if_neg n1_0]
    by_cases w3 : c.toInt < 1
    · rw [if_pos (show c < 1 from i_lt.mpr w3), p_in0 (x := 1) (y := 4) rfl rfl (by omega), bd2_s, bd2_s, if_pos rfl, if_pos rfl, bd2_s, if_pos rfl]
      exact ⟨_, μ, ν, rfl, rfl, q⟩
    rw [if_neg (c := c < 1) (fun z => w3 (show c.toInt < (1 : Int32).toInt from i_lt.mp z))]
    by_cases w4 : 4 < c.toInt
    · rw [if_pos (show 4 < c from i_lt.mpr w4), p_in0 (x := 1) (y := 4) rfl rfl (by omega), bd2_s, bd2_s, if_pos rfl, if_pos rfl, bd2_s, if_pos rfl]
      exact ⟨_, μ, ν, rfl, rfl, q⟩
    rw [if_neg (c := 4 < c) (fun z => w4 (show (4 : Int32).toInt < c.toInt from i_lt.mp z)), p_in1 (x := 1) (y := 4) rfl rfl (by omega), bd2_s, bd2_s, if_neg n1_0, if_neg n1_0, bd2_s, if_neg n1_0]
    obtain ⟨k, hk, rfl⟩ : ∃ k, k ≤ K ∧ a = nI k := ⟨a.toInt.toNat, by omega, nn_get (by omega)⟩
    obtain ⟨w, hw1, hw, rfl⟩ : ∃ w, 1 ≤ w ∧ w ≤ 4 ∧ c = nI w := ⟨c.toInt.toNat, by omega, by omega, nn_get (by omega)⟩
    obtain ⟨y1, y2, y3, y4, y5, _⟩ := IE_sq q2 hi h4
    have hv : tV (tgC μ i) := by rw [y1]; exact y4.1
    obtain ⟨μ', r1, r2, r3⟩ := p_hear (F := F) (T := T) (w := w) (k := k) (K := K) (sq := i) (X := X) (t := tgC μ i) hF a1 a3 hw1 hw hk hK (by omega) hv (fun j hj => (t3 j hj).1.2) a7 rfl t1
    have pb := pw_b (w := w) a3 hw
    have gz : ag P6 ν (bw ν 89 0 0 15 (fun _ => 0)) := ⟨fun c i j h => by
      unfold P6 at h
      rw [gi_bw, if_neg (by omega)], fun _ _ _ => rfl⟩
    obtain ⟨ν', s1, s2, s3⟩ := p_42L (F := F) (S := S) (s := i) (w := w) (k := k) (K := K) (X := X) (t := tgC μ i) (μ := μ) hF a3 a2 (by omega) hw1 hw hv hk hK (xm X ^ w) F 0 (bw ν 89 0 0 15 (fun _ => 0)) (by omega) (by omega) (live_SR (ag_of gz P6_SR) a6) (RT_SR (ag_of gz P6_SR) a8) ((ag_n gz (by unfold P6; omega)).trans (by rw [y1]; exact y5)) (fun j hj => by rw [ag_n gz (by unfold P6; omega), ag_n gz (by unfold P6; omega), ag_n gz (by unfold P6; omega)]; exact t3 j hj) (fun z hz => by rw [gi_bw, if_pos (by omega)]; rfl)
    have iv : Inv u s μ' ν' := Inv_scr (ag_of r2 PH_SC) (ag_of (ag_tr gz s2) P6_SR) q
    have l15 := p_l15 (F := F) (v1 := nI k) (v2 := nI i) (v3 := nI w) 15 F 0 ν (by omega) (by omega)
    rw [show (nI 0 : Int32) = 0 from rfl] at l15 s1
    rw [show flg (cA μ X w k (tgC μ i) 0) = 0 from rfl] at s1
    rw [a4, tx_nI a1, r1, bd1_s, l15, s1]
    obtain ⟨g, hg⟩ : ∃ g : Nat → Nat, ∀ z, g z ≤ cA μ X w k (tgC μ i) (xm X ^ w) ∧ tA μ X w k (tgC μ i) (xm X ^ w) z = nI (g z) := ⟨fun z => (tA_b (xm X ^ w)).choose, fun z => (tA_b (xm X ^ w)).choose_spec⟩
    have ci := cA_le (μ := μ) (X := X) (w := w) (k := k) (t := tgC μ i) (xm X ^ w)
    unfold fX9_whereToListen
    rw [r3.1]
    generalize cA μ X w k (tgC μ i) (xm X ^ w) = C at hg ci
    by_cases y : C = 0
    · rw [y, if_pos (show nI 0 = 0 from rfl), bd2_s]
      refine ⟨_, _, ν', rfl, ?_, iv⟩
      obtain ⟨f, rfl⟩ : ∃ f, F = f + 1 := ⟨F - 1, by omega⟩
      rw [show flg 0 = 0 from rfl, fX12_listen_L122, if_neg (by rw [show (1 : Int32) = nI 1 from rfl, nn_lt (by omega) (by omega)]; omega), if_pos rfl]
    · rw [if_neg (show ¬ nI C = 0 by rw [show (0 : Int32) = nI 0 from rfl, nn_inj (by omega) (by omega)]; exact y), nn_s]
      have cw := p_wtL (F := F) (w := w) (g := g) (μ := μ') hw (fun z hz => ⟨by have := (hg z).1; omega, (r3.2.2 z hz).trans (hg z).2⟩) w F 0 (-1) (C + 1) (by omega) (by omega) (by omega)
      have hgR : ∀ z, z < 12 → g z ≤ 625 ∧ gi ν' 89 0 (z + 3) = nI (g z) := fun z hz => ⟨by have := (hg z).1; omega, (s3 z hz).trans (hg z).2⟩
      rw [show (nI 0 : Int32) = 0 from rfl] at cw
      rw [cw, bd2_s]
      have q0 := (hg (3 * 0)).1
      have q1 := (hg (3 * 0 + 1)).1
      have q2 := (hg (3 * 0 + 2)).1
      have gb : g3 g 0 ≤ C := by
        unfold g3
        omega
      refine ⟨_, _, ν', rfl, ?_, iv⟩
      have fl : flg C = 1 := by
        unfold flg
        rw [if_neg y]
      obtain ⟨d, rfl⟩ : ∃ d, w = d + 1 := ⟨w - 1, by omega⟩
      obtain ⟨f, hf⟩ : ∃ f, F = f + 1 := ⟨F - 1, by omega⟩
      have z9 := p_139 (F := F) (w := d + 1) (ν := ν') (K := fun v3 v4 v5 v6 v7 μ => fX12_listen_L122 F f v3 v4 v5 v6 v7 μ) (v4 := 1) (v5 := -2) (v6 := 0) (j := 0) (by omega) hgR (F - 4)
      rw [show F - 4 + 4 = F by omega] at z9
      have z2 := p_122 (F := F) (w := d + 1) (g := g) (ν := ν') hF hw hgR d f 1 1 (g3 g 0) (by omega) (by omega) (by omega) (by omega)
      rw [fl]
      show fX12_listen_L122 F F (nI (d + 1)) 1 (-2) 0 1 ν' = _
      rw [show fX12_listen_L122 F F = fX12_listen_L122 F (f + 1) by rw [← hf], fX12_listen_L122, if_neg (by rw [show (1 : Int32) = nI 1 from rfl, nn_lt (by omega) (by omega)]; omega), if_neg n1_0]
      rw [show (nI (0 + 1) : Int32) = 1 from rfl] at z9
      rw [z9, if_pos (by decide)]
      show fX12_listen_L122 F f (nI (d + 1)) 1 (nI 1) (nI (g3 g 0)) (nI (1 + 1)) ν' = _
      rw [z2]
      show _ = some (pk (g3 g) (d + 1) 0 (-1) (C + 1), ν')
      conv => rhs; unfold pk
      rw [if_neg (by omega)]
  · rw [hc, bd2_s, oel_n]
    rw [p_in]
    by_cases y : (0 : Int32).toInt ≤ a.toInt ∧ a.toInt ≤ (nI K).toInt
    · rw [if_pos y, bd2_s, if_neg n1_0, hr, bd2_s, if_pos rfl, bd2_s, if_pos rfl]
      exact ⟨_, μ, ν, rfl, rfl, q⟩
    · rw [if_neg y, bd2_s, if_pos rfl, bd2_s, if_pos rfl]
      exact ⟨_, μ, ν, rfl, rfl, q⟩
