theorem p_L10 {F L : Nat} (hL : L ≤ 2000) : ∀ (d n j : Nat) (ν : Mm), j + d = L → d < n → gi ν 12 0 4 = nI L → (∀ z, z < L → (gi ν 48 0 z).toInt8.toInt32 = gi ν 48 0 z) → fX12_read_L10 F n (nI j) ν = fX12_read_L10 F 1 (nI L) (bw ν 49 0 j L (fun z => gi ν 48 0 z))
  | _, 0, _, _, _, h, _, _ => absurd h (Nat.not_lt_zero _)
  | 0, n + 1, j, ν, h1, h2, h4, hb => by
    obtain rfl : j = L := by omega
    rw [bw_0 (Nat.le_refl _), fX12_read_L10, h4, if_pos (by rw [nn_le (by omega) (by omega)]; omega), fX12_read_L10, h4, if_pos (by rw [nn_le (by omega) (by omega)]; omega)]
  | d + 1, n + 1, j, ν, h1, h2, h4, hb => by
    rw [fX12_read_L10, h4, if_neg (by rw [nn_le (by omega) (by omega)]; omega), if_pos ((nn_inb (by omega)).mpr (by omega)), nn_cl (by omega), vp_nar_byte, hb j (by omega), nn_s]
    rw [p_L10 hL d n (j + 1) (si ν 49 0 j (gi ν 48 0 j)) (by omega) (by omega) ((gi_ne (by omega)).trans h4) (fun z hz => by rw [gi_ne (by omega)]; exact hb z hz), bw_s (g := fun z => gi ν 48 0 z) (by omega) rfl (fun z _ _ => gi_ne (by omega))]
theorem byte_b {x : Int32} (h : x.toInt8.toInt32 = x) : -128 ≤ x.toInt ∧ x.toInt ≤ 127 := by
  have h1 := x.toInt8.toInt_lt
  have h2 := x.toInt8.le_toInt
  have h3 : x.toInt = x.toInt8.toInt := by
    rw [← Int8.toInt_toInt32, h]
  omega
def X0 : (Nat × Nat × Int32) × (Nat → List (Int32 × Int32)) × (Nat → List (Int32 × Int32)) × (Nat → List Br × List Int32) := ((0, 0, 0), fun _ => [], fun _ => [], fun k => ([], [dfl k]))
/-- the class is ready to be told -/
theorem p_beginC {F T L : Nat} {B : Nat → Int32} {μ : Mm} (hF : 100000 ≤ F) (hT : T < 2) (hL : L ≤ 2000) (hb : ∀ j, j < L → (B j).toInt ≤ 127) (h7 : gi μ 7 0 0 = nI L) (h29 : ∀ j, j < L → gi μ 29 0 j = B j) : ∃ μ' N, fX2_readInto F T μ = fX2_readInto_L41 F F 0 μ' ∧ fr (FRC T) QC μ μ' ∧ Sts (tkK B L) N ∧ LC T (tkK B L) N 0 μ' ∧ (gi μ' 8 T 0 = 0 ∧ gi μ' 8 T 1 = 0 ∧ gi μ' 8 T 2 = 0 ∧ gi μ' 8 T 7 = 0 ∧ gi μ' 8 T 5 = nI 8) ∧ (∀ k, k < 4 → gi μ' 38 T k = nI (2 * k) ∧ cEnc μ' T 8 [] [dfl k] (2 * k)) ∧ gi μ' 2 0 4 = 0 ∧ gi μ' 2 0 5 = -1 := by
  unfold fX2_readInto
  generalize hμa : si (si (si (si (si μ 2 0 3 (nI T)) 2 0 0 0) 2 0 1 (-1)) 2 0 4 0) 2 0 5 (-1) = μa
  have fa : fr (fun c _ _ => c = 2) (fun _ => False) μ μa := by
    rw [← hμa]
    exact fr_tr (fr_tr (fr_tr (fr_tr (fr_si rfl) (fr_si rfl)) (fr_si rfl)) (fr_si rfl)) (fr_si rfl)
  have e3 : gi μa 2 0 3 = nI T := by rw [← hμa, gi_ne (by omega), gi_ne (by omega), gi_ne (by omega), gi_ne (by omega), gi_eq]
  have e0 : gi μa 2 0 0 = 0 := by rw [← hμa, gi_ne (by omega), gi_ne (by omega), gi_ne (by omega), gi_eq]
  have e4 : gi μa 2 0 4 = 0 := by rw [← hμa, gi_ne (by omega), gi_eq]
  have e5 : gi μa 2 0 5 = -1 := by rw [← hμa, gi_eq]
  obtain ⟨μb, b1, b2, b3, b4⟩ := p_clear (F := F) (T := T) (μ := μa)
  rw [e3, tx_nI hT, b1, bd1_s]
  have hB : BtC B L μb := ⟨hL, (fr_n b2 (by unfold FCl; omega)).trans ((fr_n fa (by omega)).trans h7), fun j hj => (fr_n b2 (by unfold FCl; omega)).trans ((fr_n fa (by omega)).trans (h29 j hj))⟩
  obtain ⟨μc, N, c1, c2, c3, c4, c5⟩ := p_scanC (F := F) hF hb hB
  rw [c1, bd1_s]
  have n2 : ∀ j, gi μc 2 0 j = gi μa 2 0 j := fun j => (fr_n c2 (by unfold FT; omega)).trans (fr_n b2 (by unfold FCl; omega))
  have n8 : ∀ c j, c = 8 ∨ c = 37 ∨ c = 38 → gi μc c T j = gi μb c T j := fun c j hc => fr_n c2 (by unfold FT; omega)
  refine ⟨μc, N, rfl, fr_tr (fr_of fa (fun c i j q => Or.inr (Or.inl q)) (fun c q => q.elim)) (fr_tr (fr_of b2 (fun c i j q => Or.inl ?_) (fun c q => q.elim)) (fr_of c2 (fun c i j q => ?_) (fun c q => by unfold QC; omega))), c3, ⟨(n2 0).trans e0, (n2 3).trans e3, c4, c5, Nat.zero_le _⟩, ⟨(n8 8 _ (by omega)).trans b3.1, (n8 8 _ (by omega)).trans b3.2.1, (n8 8 _ (by omega)).trans b3.2.2.1, (n8 8 _ (by omega)).trans b3.2.2.2.1, (n8 8 _ (by omega)).trans b3.2.2.2.2⟩, fun k hk => ⟨(n8 38 _ (by omega)).trans (b4 k hk).1, cEnc_ag (fun j => n8 37 _ (by omega)) _ _ _ (b4 k hk).2⟩, (n2 4).trans e4, (n2 5).trans e5⟩
  · rcases q.1 with w | w | w
    · exact Or.inr (Or.inr (Or.inr (Or.inr (Or.inr (Or.inl ⟨w, q.2⟩)))))
    · exact Or.inr (Or.inr (Or.inr (Or.inl ⟨w, q.2⟩)))
    · exact Or.inr (Or.inr (Or.inr (Or.inr (Or.inl ⟨w, q.2⟩))))
  · rcases q with q | q
    · exact Or.inr (Or.inr (Or.inr q))
    · exact Or.inr (Or.inr (Or.inl q.1))
/-- the reference is ready to be told -/
theorem p_beginR {F S L N : Nat} {B : Nat → Int32} {ν : Mm} (hF : 100000 ≤ F) (hS : S < 2) (hL : L ≤ 2000) (hb : ∀ j, j < L → (gi ν 48 0 j).toInt8.toInt32 = gi ν 48 0 j) (hB : ∀ j, j < L → gi ν 48 0 j = B j) (hY : KY ν) (h2 : gi ν 12 0 2 = nI L) (h18 : gi ν 12 0 18 = nI S) (hN : Sts (tkK B L) N) : ∃ ν', fX12_read F ν = fX12_read_L112 F F ν' ∧ fr (FRR (1 - S)) QR ν ν' ∧ LR (tkK B L) N 0 ν' ∧ gi ν' 12 0 12 = 0 ∧ gi ν' 12 0 19 = nI (1 - S) ∧ gi ν' 56 0 (1 - S) = 0 ∧ gi ν' 57 0 (1 - S) = 0 ∧ gi ν' 62 0 (1 - S) = 0 ∧ (∀ k, k < 4 → gi ν' 63 0 (4 * (1 - S) + k) = 0 ∧ gi ν' 64 0 (4 * (1 - S) + k) = 0) ∧ gi ν' 12 0 15 = 0 ∧ gi ν' 12 0 20 = 0 ∧ gi ν' 12 0 31 = nI (130 * (1 - S)) ∧ gi ν' 12 0 37 = nI (420 * (1 - S)) ∧ gi ν' 12 0 2 = 0 := by
  have hb2 : ∀ j, j < L → -128 ≤ (B j).toInt ∧ (B j).toInt ≤ 127 := fun j hj => by
    rw [← hB j hj]
    exact byte_b (hb j hj)
  have f12 : ∀ (νa : Mm) (j : Nat) (x : Int32), (j = 2 ∨ j = 4 ∨ j = 10 ∨ j = 12 ∨ j = 17 ∨ j = 19 ∨ (11 ≤ j ∧ j ≤ 16) ∨ j = 20 ∨ j = 31 ∨ j = 37 ∨ j = 41) → fr (FRR (1 - S)) QR νa (si νa 12 0 j x) := fun νa j x hj => fr_si (by
    by_cases y : j = 2 ∨ j = 4 ∨ j = 10 ∨ j = 12 ∨ j = 17 ∨ j = 19
    · exact Or.inr (Or.inr ⟨rfl, y⟩)
    · exact Or.inl (Or.inl ⟨rfl, by omega⟩))
  have l10 := p_L10 (F := F) hL L F 0 (si ν 12 0 4 (nI L)) (by omega) (by omega) gi_eq (fun z hz => by rw [gi_ne (by omega)]; exact hb z hz)
  unfold fX12_read
  have l10' : fX12_read_L10 F F 0 (si ν 12 0 4 (nI L)) = _ := l10
  rw [h2, l10', fX12_read_L10]
  generalize hν1 : bw (si ν 12 0 4 (nI L)) 49 0 0 L (fun z => gi (si ν 12 0 4 (nI L)) 48 0 z) = ν1
  have g1 : fr (FRR (1 - S)) QR ν ν1 := by
    rw [← hν1]
    refine fr_tr (f12 ν 4 (nI L) (by omega)) ⟨fun c i j q => ?_, fun _ _ _ _ => rfl⟩
    rw [gi_bw, if_neg (fun w => q (Or.inr (Or.inl (by omega))))]
  have e4 : gi ν1 12 0 4 = nI L := by rw [← hν1, gi_bw, if_neg (by omega), gi_eq]
  have e18 : gi ν1 12 0 18 = nI S := by rw [← hν1, gi_bw, if_neg (by omega), gi_ne (by omega), h18]
  have e49 : ∀ j, j < L → gi ν1 49 0 j = B j := fun j hj => by
    rw [← hν1, gi_bw, if_pos (by omega), gi_ne (by omega)]
    exact hB j hj
  rw [e4, if_pos (by rw [nn_le (by omega) (by omega)]; omega)]
  unfold fX12_cut
  have k2 : BtR B L (si (si ν1 12 0 2 0) 12 0 10 0) := ⟨hL, by rw [gi_ne (by omega), gi_ne (by omega), e4], fun j hj => by rw [gi_ne (by omega), gi_ne (by omega)]; exact e49 j hj⟩
  obtain ⟨ν3, M, c1, c2, c3, c4, c5, c6⟩ := p_cutL (F := F) hF hb2 F 0 0 (si (si ν1 12 0 2 0) 12 0 10 0) (by omega) (Nat.zero_le _) rfl (by omega) k2 (fun k hk => (fr_m g1 (by unfold QR; omega)).trans (hY k hk)) gi_eq (fun z hz => absurd hz (Nat.not_lt_zero _)) (fun z hz => absurd hz (Nat.not_lt_zero _))
  have NM : N ≤ M := by
    rcases Nat.lt_or_ge M N with w | w
    · rcases c6 with x | x
      · have := hN.2.1 M w
        omega
      · have := hN.1
        omega
    · exact w
  have g3 : fr (FRR (1 - S)) QR ν ν3 := fr_tr g1 (fr_tr (fr_tr (f12 ν1 2 0 (by omega)) (f12 _ 10 0 (by omega))) (fr_of c2 (fun c i j q => by
    rcases q with q | q
    · exact Or.inr (Or.inl (by omega))
    · exact Or.inr (Or.inr ⟨q.1, by have := q.2; omega⟩)) (fun c q => Or.inl q)))
  have x18 : gi ν3 12 0 18 = nI S := (fr_n c2 (by unfold FK2; omega)).trans (by rw [gi_ne (by omega), gi_ne (by omega), e18])
  have x2 : gi ν3 12 0 2 = 0 := (fr_n c2 (by unfold FK2; omega)).trans (by rw [gi_ne (by omega), gi_eq])
  have c1' : fX12_cut_L7 F F 0 (si (si ν1 12 0 2 0) 12 0 10 0) = some ν3 := c1
  rw [c1', bd1_s, show gi (si (si (si (si ν3 12 0 11 0) 12 0 12 0) 12 0 13 0) 12 0 15 0) 12 0 18 = nI S by rw [gi_ne (by omega), gi_ne (by omega), gi_ne (by omega), gi_ne (by omega), x18], show (1 : Int32) = nI 1 from rfl, nn_sub (by omega)]
  generalize hν4 : si (si (si (si (si (si ν3 12 0 11 0) 12 0 12 0) 12 0 13 0) 12 0 15 0) 12 0 19 (nI (1 - S))) 12 0 20 0 = ν4
  have g4 : fr (FRR (1 - S)) QR ν ν4 := by
    rw [← hν4]
    exact fr_tr g3 (fr_tr (fr_tr (fr_tr (fr_tr (fr_tr (f12 ν3 11 0 (by omega)) (f12 _ 12 0 (by omega))) (f12 _ 13 0 (by omega))) (f12 _ 15 0 (by omega))) (f12 _ 19 _ (by omega))) (f12 _ 20 0 (by omega)))
  have f34 : fr (fun c _ j => c = 12 ∧ 11 ≤ j ∧ j ≤ 20) (fun _ => False) ν3 ν4 := by
    rw [← hν4]
    exact fr_tr (fr_tr (fr_tr (fr_tr (fr_tr (fr_si ⟨rfl, by omega, by omega⟩) (fr_si ⟨rfl, by omega, by omega⟩)) (fr_si ⟨rfl, by omega, by omega⟩)) (fr_si ⟨rfl, by omega, by omega⟩)) (fr_si ⟨rfl, by omega, by omega⟩)) (fr_si ⟨rfl, by omega, by omega⟩)
  have y11 : gi ν4 12 0 11 = 0 := by rw [← hν4, gi_ne (by omega), gi_ne (by omega), gi_ne (by omega), gi_ne (by omega), gi_ne (by omega), gi_eq]
  have y12 : gi ν4 12 0 12 = 0 := by rw [← hν4, gi_ne (by omega), gi_ne (by omega), gi_ne (by omega), gi_ne (by omega), gi_eq]
  have y13 : gi ν4 12 0 13 = 0 := by rw [← hν4, gi_ne (by omega), gi_ne (by omega), gi_ne (by omega), gi_eq]
  have y15 : gi ν4 12 0 15 = 0 := by rw [← hν4, gi_ne (by omega), gi_ne (by omega), gi_eq]
  have y19 : gi ν4 12 0 19 = nI (1 - S) := by rw [← hν4, gi_ne (by omega), gi_eq]
  have y20 : gi ν4 12 0 20 = 0 := by rw [← hν4, gi_eq]
  obtain ⟨ν5, d1, d2, d3, d4, d5, d6⟩ := p_plain (F := F) (S := 1 - S) (ν := ν4) (by omega) (by omega)
  have p5 : ∀ j, gi ν5 12 0 j = gi ν4 12 0 j := fun j => fr_n d2 (by omega)
  rw [y19, d1, bd1_s, p5, y19, show (130 : Int32) = nI 130 from rfl, nn_mul, gi_ne (by omega), p5, y19, show (420 : Int32) = nI 420 from rfl, nn_mul]
  generalize hν6 : si (si ν5 12 0 31 (nI (130 * (1 - S)))) 12 0 37 (nI (420 * (1 - S))) = ν6
  have f56 : fr (fun c _ j => c = 12 ∧ (j = 31 ∨ j = 37)) (fun _ => False) ν5 ν6 := by
    rw [← hν6]
    exact fr_tr (fr_si ⟨rfl, by omega⟩) (fr_si ⟨rfl, by omega⟩)
  have g6 : fr (FRR (1 - S)) QR ν ν6 := by
    refine fr_tr g4 (fr_tr (fr_of d2 (fun c i j q => Or.inl ?_) (fun c q => q.elim)) ?_)
    · rcases q with q | q
      · exact Or.inr (Or.inr (Or.inr (Or.inr (Or.inr (Or.inl q)))))
      · exact Or.inr (Or.inr (Or.inr (Or.inr (Or.inl (Or.inl q)))))
    · rw [← hν6]
      exact fr_tr (f12 ν5 31 _ (by omega)) (f12 _ 37 _ (by omega))
  have p6 : ∀ j, j ≠ 31 → j ≠ 37 → gi ν6 12 0 j = gi ν4 12 0 j := fun j h1 h2 => (fr_n f56 (by omega)).trans (p5 j)
  have pT : ∀ c j, 50 ≤ c → c ≤ 52 → gi ν6 c 0 j = gi ν3 c 0 j := fun c j h1 h2 => (fr_n f56 (by omega)).trans ((fr_n d2 (by omega)).trans (fr_n f34 (by omega)))
  have pJ : ∀ j, gj ν6 53 0 j = gj ν3 53 0 j := fun j => (fr_m f56 (fun w => w)).trans ((fr_m d2 (fun w => w)).trans (fr_m f34 (fun w => w)))
  refine ⟨ν6, rfl, g6, ⟨(p6 13 (by omega) (by omega)).trans y13, fun z hz => ?_, (p6 11 (by omega) (by omega)).trans y11, Nat.zero_le _⟩, (p6 12 (by omega) (by omega)).trans y12, (p6 19 (by omega) (by omega)).trans y19, (fr_n f56 (by omega)).trans d3, (fr_n f56 (by omega)).trans d4, (fr_n f56 (by omega)).trans d5, fun k hk => ⟨(fr_n f56 (by omega)).trans (d6 k hk).1, (fr_n f56 (by omega)).trans (d6 k hk).2⟩, (p6 15 (by omega) (by omega)).trans y15, (p6 20 (by omega) (by omega)).trans y20, by rw [← hν6, gi_ne (by omega), gi_eq], by rw [← hν6, gi_eq], (p6 2 (by omega) (by omega)).trans ((fr_n f34 (by omega)).trans x2)⟩
  obtain ⟨z1, z2, z3, z4⟩ := c4 z (by omega)
  exact ⟨(pT 50 z (by omega) (by omega)).trans z1, (pT 51 z (by omega) (by omega)).trans z2, fun w => (pT 52 z (by omega) (by omega)).trans (z3 w), fun w => (pJ z).trans (z4 w)⟩
