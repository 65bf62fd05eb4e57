/-! PURE: read, the class's scanning -/
def sgi (b : Int32) : Nat → Nat → Int32
  | 0, _ => -1
  | d + 1, i => if (bytS.getD 1 []).getD i 0 = b then nI i else sgi b d (i + 1)
theorem p_ioL {F : Nat} {b : Int32} {μ : Mm} : ∀ (d n i : Nat), i + d = 9 → d < n → fJ1_indexOfChar_4cfef_w1_L7 F n (nI 9) b (nI i) μ = some (sgi b d i, μ)
  | _, 0, _, _, q => absurd q (Nat.not_lt_zero _)
  | 0, n + 1, i, h1, h2 => by
    rw [fJ1_indexOfChar_4cfef_w1_L7, if_pos (by rw [nn_le (by omega) (by omega)]; omega)]
    rfl
  | d + 1, n + 1, i, h1, h2 => by
    rw [fJ1_indexOfChar_4cfef_w1_L7, if_neg (by rw [nn_le (by omega) (by omega)]; omega), if_pos ((nn_inb (by omega)).mpr (by omega)), nn_cl (by omega)]
    unfold sgi
    by_cases y : (bytS.getD 1 []).getD i 0 = b
    · rw [if_pos y, if_pos y]
    · rw [if_neg y, if_neg y, nn_s]
      exact p_ioL d n (i + 1) (by omega) (by omega)
theorem b127 {b : Int32} (h : 1 ≤ b.toInt) (h2 : b.toInt ≤ 127) : ∃ n, n < 128 ∧ b = nI n := ⟨b.toInt.toNat, by omega, nn_get (by omega)⟩
theorem p_sgC {F : Nat} {b : Int32} {μ : Mm} (hF : 1000 ≤ F) (h : 1 ≤ b.toInt) (h2 : b.toInt ≤ 127) : fJ0_indexOf_0f7a4_w1 F (i2c b) μ = some (sgi b 9 0, μ) := by
  obtain ⟨n, hn, rfl⟩ := b127 h h2
  have e1 : ∀ n, n < 128 → i2c (nI n) = nI n ∧ (nI n).toInt8.toInt32 = nI n := by decide +kernel
  unfold fJ0_indexOf_0f7a4_w1 fJ0_indexOf_7cf53_w1 fJ0_isLatin1_aae02_w1 fJ1_indexOf_4cfef_w1 fJ1_canEncode_9a6ad fJ1_indexOfChar_4cfef_w1
  rw [(e1 n hn).1, bd2_s, if_neg n1_0, p_len1, bd2_s, if_neg (nn_neg (by omega)), if_neg (by rw [show (255 : Int32) = nI 255 from rfl, nn_lt (by omega) (by omega)]; omega), bd2_s, if_neg n1_0, if_pos (by decide), (e1 n hn).2, show mx 0 0 = nI 0 from rfl, show mn 9 9 = nI 9 from rfl, p_ioL 9 F 0 rfl (by omega)]
  rfl
theorem sgi_k {b : Int32} (h : 1 ≤ b.toInt) (h2 : b.toInt ≤ 127) : (if 0 ≤ sgi b 9 0 then 24 + sgi b 9 0 else 34) = nI (sgk b) := by
  obtain ⟨n, hn, rfl⟩ := b127 h h2
  have e1 : ∀ n, n < 128 → (if 0 ≤ sgi (nI n) 9 0 then 24 + sgi (nI n) 9 0 else 34) = nI (sgk (nI n)) := by decide +kernel
  exact e1 n hn
theorem sgk_n {b : Int32} (h : b.toInt ≤ 0) : sgk b = 34 := by
  have e : ∀ x : Int32, 0 < x.toInt → ¬ b = x := fun x hx q => by
    rw [q] at h
    omega
  unfold sgk
  rw [if_neg (e _ (by decide)), if_neg (e _ (by decide)), if_neg (e _ (by decide)), if_neg (e _ (by decide)), if_neg (e _ (by decide)), if_neg (e _ (by decide)), if_neg (e _ (by decide)), if_neg (e _ (by decide)), if_neg (e _ (by decide))]
theorem gj_eq {μ : Mm} {c i j : Nat} {v : Int64} : gj (sj μ c i j v) c i j = v := by
  rw [gj_sj, if_pos ⟨rfl, rfl, rfl⟩]
theorem gj_ne {μ : Mm} {c i j c' i' j' : Nat} {v : Int64} (h : ¬ (c' = c ∧ i' = i ∧ j' = j)) : gj (sj μ c i j v) c' i' j' = gj μ c' i' j' := by
  rw [gj_sj, if_neg h]
def FS (i : Nat) (c _ k : Nat) : Prop := (c = 30 ∨ c = 32) ∧ k = i
/-- one TOKEN at a place -/
theorem p_tkC {F L i j : Nat} {B : Nat → Int32} {μ : Mm} (hF : 100000 ≤ F) (h : BtC B L μ) (hb : ∀ j, j < L → (B j).toInt ≤ 127) (hi : i ≤ 400) (hj : j ≤ L) : ∃ μ', fX7_scanToken F (nI i) (nI j) μ = some (nI (tkA B L j).2, μ') ∧ fr (FS i) (fun c => c = 33) μ μ' ∧ (∀ k, k ≠ i → gj μ' 33 0 k = gj μ 33 0 k) ∧ gi μ' 30 0 i = nI (tkA B L j).1.1 ∧ ((tkA B L j).1.1 = 23 → gi μ' 32 0 i = (tkA B L j).1.2.2.1) ∧ ((tkA B L j).1.1 ≤ 22 → gj μ' 33 0 i = (tkA B L j).1.2.2.2) := by
  have hL := h.1
  have hin : inb (nI i) 401 = true := (nn_inb (by omega)).mpr (by omega)
  unfold fX7_scanToken tkA
  rw [h.2.1]
  by_cases h1 : L ≤ j
  · rw [if_neg (by rw [nn_lt (by omega) (by omega)]; omega), if_pos hin, nn_cl (by omega), if_pos h1]
    exact ⟨_, rfl, fr_si ⟨Or.inl rfl, rfl⟩, fun _ _ => rfl, gi_eq, fun q => absurd q (by simp), fun q => absurd q (by simp)⟩
  rw [if_pos (by rw [nn_lt (by omega) (by omega)]; omega), p_byC h (by omega), bd2_s, p_ltrC, bd2_s, if_neg h1]
  by_cases h2 : ltr (B j) = true
  · rw [h2, show b01 true = 1 from rfl, if_neg n1_0, if_pos rfl]
    unfold fX7_scanWord
    rw [p_swL h (L - j) F j 0 (by omega) (by omega)]
    have hr := rnE_b (p := ltr) (B := B) (L - j) j
    generalize rnE ltr B (L - j) j = e at hr
    generalize wdV B (L - j) j 0 = v
    unfold fX7_scanWord_L42 fX7_scanWord_L73
    rw [if_pos hin, nn_cl (by omega), nn_sub hr.1, p_kow (by omega), bd2_s, if_pos hin, if_pos hin]
    by_cases y : e - j ≤ 8
    · rw [if_pos (by rw [show (8 : Int32) = nI 8 from rfl, nn_le (by omega) (by omega)]; exact y), bd2_s, if_pos y]
      refine ⟨_, rfl, fr_tr (fr_sj rfl) (fr_si ⟨Or.inl rfl, rfl⟩), fun k hk => gj_ne (by omega), gi_eq, fun q => ?_, fun _ => gj_eq⟩
      have := kwf_b (v := v) kyL 0
      rw [show kyL.length = 22 from rfl] at this
      have q' : kwf kyL 0 v = 23 := q
      omega
    · rw [if_neg (by rw [show (8 : Int32) = nI 8 from rfl, nn_le (by omega) (by omega)]; exact y), bd2_s, if_neg y]
      exact ⟨_, rfl, fr_tr (fr_sj rfl) (fr_si ⟨Or.inl rfl, rfl⟩), fun k hk => gj_ne (by omega), gi_eq, fun q => absurd q (by simp), fun q => absurd q (by simp)⟩
  have h2f : ltr (B j) = false := by simpa using h2
  rw [h2f, show b01 false = 0 from rfl, if_pos rfl, p_dgtC, bd2_s]
  simp only [Bool.false_eq_true, if_false]
  by_cases h3 : dgt (B j) = true
  · rw [h3, show b01 true = 1 from rfl, if_neg n1_0, if_pos rfl]
    unfold fX7_scanInt
    rw [p_siL h (L - j) F j 0 (by omega) (by omega)]
    have hr := rnE_b (p := dgt) (B := B) (L - j) j
    generalize rnE dgt B (L - j) j = e at hr
    generalize ivV B (L - j) j 0 = v
    unfold fX7_scanInt_L46 fX7_scanInt_L73
    rw [if_pos hin, nn_cl (by omega), nn_sub hr.1, if_pos hin, if_pos hin]
    by_cases y : e - j ≤ 4
    · rw [if_pos (by rw [show (4 : Int32) = nI 4 from rfl, nn_le (by omega) (by omega)]; exact y), bd2_s, if_pos y]
      exact ⟨_, rfl, fr_tr (fr_si ⟨Or.inr rfl, rfl⟩) (fr_si ⟨Or.inl rfl, rfl⟩), fun k hk => rfl, gi_eq, fun _ => by rw [gi_ne (by omega), gi_eq], fun q => absurd q (by simp)⟩
    · rw [if_neg (by rw [show (4 : Int32) = nI 4 from rfl, nn_le (by omega) (by omega)]; exact y), bd2_s, if_neg y]
      exact ⟨_, rfl, fr_tr (fr_si ⟨Or.inr rfl, rfl⟩) (fr_si ⟨Or.inl rfl, rfl⟩), fun k hk => rfl, gi_eq, fun q => absurd q (by simp), fun q => absurd q (by simp)⟩
  have h3f : dgt (B j) = false := by simpa using h3
  rw [h3f, show b01 false = 0 from rfl, if_pos rfl]
  simp only [Bool.false_eq_true, if_false]
  have hs := sgk_b (B j)
  have fin : ∀ x : Int32, x = nI (sgk (B j)) → ∃ μ', fX7_scanToken_L89 F (nI j) (nI i) x μ = some (nI (j + 1), μ') ∧ fr (FS i) (fun c => c = 33) μ μ' ∧ (∀ k, k ≠ i → gj μ' 33 0 k = gj μ 33 0 k) ∧ gi μ' 30 0 i = nI (sgk (B j)) ∧ (sgk (B j) = 23 → gi μ' 32 0 i = 0) ∧ (sgk (B j) ≤ 22 → gj μ' 33 0 i = 0) := fun x hx => by
    unfold fX7_scanToken_L89
    rw [if_pos hin, nn_cl (by omega), nn_s, hx]
    exact ⟨_, rfl, fr_si ⟨Or.inl rfl, rfl⟩, fun _ _ => rfl, gi_eq, fun q => absurd q (by omega), fun q => absurd q (by omega)⟩
  by_cases h4 : (B j).toInt ≤ 0
  · rw [if_pos (show B j ≤ 0 from i_le0.mpr h4)]
    unfold fX7_scanToken_L67
    rw [if_neg (by decide)]
    exact fin 34 (by rw [sgk_n h4]; rfl)
  · have hb2 := hb j (by omega)
    rw [if_neg (show ¬ B j ≤ 0 from fun q => h4 (i_le0.mp q)), p_sgC (by omega) (by omega) hb2, bd2_s]
    have e := sgi_k (b := B j) (by omega) hb2
    unfold fX7_scanToken_L67
    by_cases z : 0 ≤ sgi (B j) 9 0
    · rw [if_pos z] at e ⊢
      exact fin _ e
    · rw [if_neg z] at e ⊢
      exact fin _ e
/-! what the TOKENS are, in the class, in the reference -/
def TKC (K : Nat → Tk) (N : Nat) (μ : Mm) : Prop := ∀ i, i ≤ N → gi μ 30 0 i = nI (K i).1 ∧ gi μ 31 0 i = (K i).2.1 ∧ ((K i).1 = 23 → gi μ 32 0 i = (K i).2.2.1) ∧ ((K i).1 ≤ 22 → gj μ 33 0 i = (K i).2.2.2)
def Sts (K : Nat → Tk) (N : Nat) : Prop := N ≤ 400 ∧ (∀ z, z < N → (K z).1 ≤ 32) ∧ (33 ≤ (K N).1 ∨ N = 400)
def AtC (K : Nat → Tk) (t : Nat) (μ : Mm) : Prop := gi μ 7 0 1 = nI t ∧ gi μ 7 0 2 = nI (K t).1 ∧ gi μ 7 0 3 = (K t).2.1 ∧ ((K t).1 = 23 → gi μ 7 0 4 = (K t).2.2.1) ∧ ((K t).1 ≤ 22 → gj μ 7 0 5 = (K t).2.2.2)
def Fk7 (c _ j : Nat) : Prop := c = 7 ∧ 1 ≤ j
theorem p_tuC {F t N : Nat} {K : Nat → Tk} {μ : Mm} (hN : N ≤ 400) (ht : t ≤ N) (h : TKC K N μ) : ∃ μ', fX7_takeUp F (nI t) μ = some μ' ∧ fr Fk7 (fun c => c = 7) μ μ' ∧ AtC K t μ' := by
  obtain ⟨a1, a2, a3, a4⟩ := h t ht
  unfold fX7_takeUp
  rw [if_neg (nn_neg (by omega)), if_pos (by rw [show (400 : Int32) = nI 400 from rfl, nn_le (by omega) (by omega)]; omega), if_pos ((nn_inb (by omega)).mpr (by omega)), nn_cl (by omega)]
  refine ⟨_, rfl, ?_, ?_⟩
  · exact fr_tr (fr_tr (fr_tr (fr_tr (fr_si ⟨rfl, by omega⟩) (fr_si ⟨rfl, by omega⟩)) (fr_si ⟨rfl, by omega⟩)) (fr_si ⟨rfl, by omega⟩)) (fr_sj rfl)
  · refine ⟨by simp [gi_sj, gi_si], by simp [gi_sj, gi_si, a1], by simp [gi_sj, gi_si, a2], fun q => by simp [gi_sj, gi_si, a3 q], fun q => ?_⟩
    rw [gj_eq]
    exact a4 q
def FT (c _ j : Nat) : Prop := (30 ≤ c ∧ c ≤ 32) ∨ (c = 7 ∧ 1 ≤ j)
theorem BtC_fr {B : Nat → Int32} {L : Nat} {P : Nat → Nat → Nat → Prop} {Q : Nat → Prop} {μ μ' : Mm} (h : fr P Q μ μ') (h7 : ¬ P 7 0 0) (h29 : ∀ j, ¬ P 29 0 j) (q : BtC B L μ) : BtC B L μ' := ⟨q.1, (fr_n h h7).trans q.2.1, fun j hj => (fr_n h (h29 j)).trans (q.2.2 j hj)⟩
theorem p_scL {F L : Nat} {B : Nat → Int32} (hF : 100000 ≤ F) (hb : ∀ j, j < L → (B j).toInt ≤ 127) : ∀ (d n i : Nat) (μ : Mm), i + d = 401 → d < n → BtC B L μ → (∀ z, z < i → (gi μ 30 0 z = nI (tkK B L z).1 ∧ gi μ 31 0 z = (tkK B L z).2.1 ∧ ((tkK B L z).1 = 23 → gi μ 32 0 z = (tkK B L z).2.2.1) ∧ ((tkK B L z).1 ≤ 22 → gj μ 33 0 z = (tkK B L z).2.2.2)) ∧ (tkK B L z).1 ≤ 32) → ∃ μ' N, fX7_scan_L4 F n (nI (tkP B L i)) (nI i) μ = some μ' ∧ fr FT (fun c => c = 33 ∨ c = 7) μ μ' ∧ Sts (tkK B L) N ∧ TKC (tkK B L) N μ' ∧ AtC (tkK B L) 0 μ'
  | _, 0, _, _, _, q, _, _ => absurd q (Nat.not_lt_zero _)
  | 0, n + 1, i, μ, h1, h2, hB, hT => by
    rw [fX7_scan_L4, if_pos (by rw [show (400 : Int32) = nI 400 from rfl, nn_lt (by omega) (by have := hB.1; omega)]; omega)]
    unfold fX7_scan_L62
    have hk : TKC (tkK B L) 400 μ := fun z hz => (hT z (by omega)).1
    obtain ⟨μ', a1, a2, a3⟩ := p_tuC (F := F) (t := 0) (N := 400) (K := tkK B L) (μ := μ) (by omega) (by omega) hk
    rw [show (0 : Int32) = nI 0 from rfl, a1, bd1_s]
    exact ⟨μ', 400, rfl, fr_of a2 (fun c i j q => Or.inr q) (fun c q => Or.inr q), ⟨Nat.le_refl _, fun z hz => (hT z (by omega)).2, Or.inr rfl⟩, fun z hz => by
      obtain ⟨b1, b2, b3, b4⟩ := hk z hz
      exact ⟨(fr_n a2 (by unfold Fk7; omega)).trans b1, (fr_n a2 (by unfold Fk7; omega)).trans b2, fun q => (fr_n a2 (by unfold Fk7; omega)).trans (b3 q), fun q => (fr_m a2 (by omega)).trans (b4 q)⟩, a3⟩
  | d + 1, n + 1, i, μ, h1, h2, hB, hT => by
    have hL := hB.1
    have hJ := tkJ_L (B := B) (L := L) i
    rw [fX7_scan_L4, if_neg (by rw [show (400 : Int32) = nI 400 from rfl, nn_lt (by omega) (by omega)]; omega)]
    unfold fX7_behindBlanks
    rw [p_bbC hB (L - tkP B L i) F (tkP B L i) (by omega) (by omega), bd2_s, if_pos ((nn_inb (by omega)).mpr (by omega)), nn_cl (by omega), show rnE blk B (L - tkP B L i) (tkP B L i) = tkJ B L i from rfl]
    have f0 : fr FT (fun c => c = 33 ∨ c = 7) μ (si μ 31 0 i (nI (tkJ B L i))) := fr_si (Or.inl ⟨by omega, by omega⟩)
    have hB1 := BtC_fr f0 (by unfold FT; omega) (fun j => by unfold FT; omega) hB
    obtain ⟨μ1, a1, a2, a3, a4, a5, a6⟩ := p_tkC (F := F) (i := i) (j := tkJ B L i) hF hB1 hb (by omega) hJ.2
    have f1 : fr FT (fun c => c = 33 ∨ c = 7) μ μ1 := fr_tr f0 (fr_of a2 (fun c i j q => by unfold FS at q; unfold FT; omega) (fun c q => Or.inl q))
    have hk : ∀ z, z < i + 1 → gi μ1 30 0 z = nI (tkK B L z).1 ∧ gi μ1 31 0 z = (tkK B L z).2.1 ∧ ((tkK B L z).1 = 23 → gi μ1 32 0 z = (tkK B L z).2.2.1) ∧ ((tkK B L z).1 ≤ 22 → gj μ1 33 0 z = (tkK B L z).2.2.2) := fun z hz => by
      by_cases y : z = i
      · subst y
        refine ⟨a4, ?_, a5, a6⟩
        rw [fr_n a2 (by unfold FS; omega), gi_eq]
        show nI (tkJ B L z) = (tkA B L (tkJ B L z)).1.2.1
        unfold tkA
        repeat' split
        all_goals rfl
      · obtain ⟨b1, b2, b3, b4⟩ := (hT z (by omega)).1
        refine ⟨?_, ?_, fun q => ?_, fun q => ?_⟩
        · rw [fr_n a2 (by unfold FS; omega), gi_ne (by omega)]
          exact b1
        · rw [fr_n a2 (by unfold FS; omega), gi_ne (by omega)]
          exact b2
        · rw [fr_n a2 (by unfold FS; omega), gi_ne (by omega)]
          exact b3 q
        · rw [a3 z y]
          exact b4 q
    have h34 := tkK_34 (B := B) (L := L) (i := i)
    have ki : gi μ1 30 0 i = nI (tkK B L i).1 := a4
    have stop : 33 ≤ (tkK B L i).1 → ∃ μ' N, fX7_scan_L62 F μ1 = some μ' ∧ fr FT (fun c => c = 33 ∨ c = 7) μ μ' ∧ Sts (tkK B L) N ∧ TKC (tkK B L) N μ' ∧ AtC (tkK B L) 0 μ' := fun h33 => by
      unfold fX7_scan_L62
      have hk' : TKC (tkK B L) i μ1 := fun z hz => hk z (by omega)
      obtain ⟨μ', b1, b2, b3⟩ := p_tuC (F := F) (t := 0) (N := i) (K := tkK B L) (μ := μ1) (by omega) (by omega) hk'
      rw [show (0 : Int32) = nI 0 from rfl, b1, bd1_s]
      exact ⟨μ', i, rfl, fr_tr f1 (fr_of b2 (fun c i j q => Or.inr q) (fun c q => Or.inr q)), ⟨by omega, fun z hz => (hT z (by omega)).2, Or.inl h33⟩, fun z hz => by
        obtain ⟨c1, c2, c3, c4⟩ := hk' z hz
        exact ⟨(fr_n b2 (by unfold Fk7; omega)).trans c1, (fr_n b2 (by unfold Fk7; omega)).trans c2, fun q => (fr_n b2 (by unfold Fk7; omega)).trans (c3 q), fun q => (fr_m b2 (by omega)).trans (c4 q)⟩, b3⟩
    rw [a1, bd2_s, ki]
    by_cases k3 : (tkK B L i).1 = 33
    · rw [if_pos (by rw [k3]; rfl)]
      exact stop (by omega)
    · rw [if_neg (by rw [show (33 : Int32) = nI 33 from rfl, nn_inj (by omega) (by omega)]; exact k3)]
      by_cases k4 : (tkK B L i).1 = 34
      · rw [if_pos (by rw [k4]; rfl)]
        exact stop (by omega)
      · rw [if_neg (by rw [show (34 : Int32) = nI 34 from rfl, nn_inj (by omega) (by omega)]; exact k4), nn_s]
        obtain ⟨μ', N, b1, b2, b3, b4, b5⟩ := p_scL hF hb d n (i + 1) μ1 (by omega) (by omega) (BtC_fr f1 (by unfold FT; omega) (fun j => by unfold FT; omega) hB) (fun z hz => ⟨hk z hz, by
          by_cases y : z = i
          · rw [y]
            omega
          · exact (hT z (by omega)).2⟩)
        exact ⟨μ', N, b1, fr_tr f1 b2, b3, b4, b5⟩
theorem p_scanC {F L : Nat} {B : Nat → Int32} {μ : Mm} (hF : 100000 ≤ F) (hb : ∀ j, j < L → (B j).toInt ≤ 127) (hB : BtC B L μ) : ∃ μ' N, fX7_scan F μ = some μ' ∧ fr FT (fun c => c = 33 ∨ c = 7) μ μ' ∧ Sts (tkK B L) N ∧ TKC (tkK B L) N μ' ∧ AtC (tkK B L) 0 μ' := by
  unfold fX7_scan
  exact p_scL hF hb 401 F 0 μ (by omega) (by omega) hB (fun z hz => absurd hz (Nat.not_lt_zero _))
