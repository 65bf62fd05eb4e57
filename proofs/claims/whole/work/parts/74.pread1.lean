/-! PURE: read, the TOKENS; a TOKEN: kind (as the class has it), place, value, name -/
abbrev Tk : Type := Nat × Int32 × Int32 × Int64
def fr (P : Nat → Nat → Nat → Prop) (Q : Nat → Prop) (μ μ' : Mm) : Prop := (∀ c i j, ¬ P c i j → gi μ' c i j = gi μ c i j) ∧ ∀ c i j, ¬ Q c → gj μ' c i j = gj μ c i j
theorem fr_rfl {P : Nat → Nat → Nat → Prop} {Q : Nat → Prop} {μ : Mm} : fr P Q μ μ := ⟨fun _ _ _ _ => rfl, fun _ _ _ _ => rfl⟩
theorem fr_tr {P : Nat → Nat → Nat → Prop} {Q : Nat → Prop} {μ μ' μ'' : Mm} (h : fr P Q μ μ') (h' : fr P Q μ' μ'') : fr P Q μ μ'' := ⟨fun c i j q => (h'.1 c i j q).trans (h.1 c i j q), fun c i j q => (h'.2 c i j q).trans (h.2 c i j q)⟩
theorem fr_si {P : Nat → Nat → Nat → Prop} {Q : Nat → Prop} {c0 i0 j0 : Nat} {μ : Mm} {v : Int32} (h : P c0 i0 j0) : fr P Q μ (si μ c0 i0 j0 v) := ⟨fun c i j q => by
  rw [gi_si, if_neg]
  rintro ⟨rfl, rfl, rfl⟩
  exact q h, fun _ _ _ _ => rfl⟩
theorem fr_sj {P : Nat → Nat → Nat → Prop} {Q : Nat → Prop} {c0 i0 j0 : Nat} {μ : Mm} {v : Int64} (h : Q c0) : fr P Q μ (sj μ c0 i0 j0 v) := ⟨fun _ _ _ _ => rfl, fun c i j q => by
  rw [gj_sj, if_neg]
  rintro ⟨rfl, rfl, rfl⟩
  exact q h⟩
theorem fr_of {P P' : Nat → Nat → Nat → Prop} {Q Q' : Nat → Prop} {μ μ' : Mm} (h : fr P Q μ μ') (hp : ∀ c i j, P c i j → P' c i j) (hq : ∀ c, Q c → Q' c) : fr P' Q' μ μ' := ⟨fun c i j q => h.1 c i j (fun w => q (hp c i j w)), fun c i j q => h.2 c i j (fun w => q (hq c w))⟩
theorem fr_n {P : Nat → Nat → Nat → Prop} {Q : Nat → Prop} {μ μ' : Mm} (h : fr P Q μ μ') {c i j : Nat} (hp : ¬ P c i j) : gi μ' c i j = gi μ c i j := h.1 c i j hp
theorem fr_m {P : Nat → Nat → Nat → Prop} {Q : Nat → Prop} {μ μ' : Mm} (h : fr P Q μ μ') {c i j : Nat} (hp : ¬ Q c) : gj μ' c i j = gj μ c i j := h.2 c i j hp
def blk (b : Int32) : Bool := decide (b = 9 ∨ b = 10 ∨ b = 13 ∨ b = 32)
def ltr (b : Int32) : Bool := decide (97 ≤ b.toInt ∧ b.toInt ≤ 122)
def dgt (b : Int32) : Bool := decide (48 ≤ b.toInt ∧ b.toInt ≤ 57)
theorem ltr_t {b : Int32} : ltr b = true ↔ 97 ≤ b.toInt ∧ b.toInt ≤ 122 := by
  unfold ltr
  exact decide_eq_true_iff
theorem dgt_t {b : Int32} : dgt b = true ↔ 48 ≤ b.toInt ∧ b.toInt ≤ 57 := by
  unfold dgt
  exact decide_eq_true_iff
theorem blk_t {b : Int32} : blk b = true ↔ (b = 9 ∨ b = 10 ∨ b = 13 ∨ b = 32) := by
  unfold blk
  exact decide_eq_true_iff
def rnE (p : Int32 → Bool) (B : Nat → Int32) : Nat → Nat → Nat
  | 0, j => j
  | d + 1, j => if p (B j) = true then rnE p B d (j + 1) else j
def wdV (B : Nat → Int32) : Nat → Nat → Int64 → Int64
  | 0, _, v => v
  | d + 1, j, v => if ltr (B j) = true then wdV B d (j + 1) (v * 27 + ((B j - 97) + 1).toInt64) else v
def ivV (B : Nat → Int32) : Nat → Nat → Int32 → Int32
  | 0, _, v => v
  | d + 1, j, v => if dgt (B j) = true then ivV B d (j + 1) (((v * 10) + B j) - 48) else v
def kwf : List Int64 → Nat → Int64 → Nat
  | [], w, _ => w
  | k :: r, w, v => if k = v then w else kwf r (w + 1) v
def sgk (b : Int32) : Nat := if b = 59 then 24 else if b = 61 then 25 else if b = 43 then 26 else if b = 45 then 27 else if b = 42 then 28 else if b = 47 then 29 else if b = 60 then 30 else if b = 40 then 31 else if b = 41 then 32 else 34
def tkA (B : Nat → Int32) (L j : Nat) : Tk × Nat := if L ≤ j then ((33, nI j, 0, 0), j) else if ltr (B j) = true then ((if rnE ltr B (L - j) j - j ≤ 8 then kwf kyL 0 (wdV B (L - j) j 0) else 34, nI j, 0, wdV B (L - j) j 0), rnE ltr B (L - j) j) else if dgt (B j) = true then ((if rnE dgt B (L - j) j - j ≤ 4 then 23 else 34, nI j, ivV B (L - j) j 0, 0), rnE dgt B (L - j) j) else ((sgk (B j), nI j, 0, 0), j + 1)
def tkP (B : Nat → Int32) (L : Nat) : Nat → Nat
  | 0 => 0
  | i + 1 => (tkA B L (rnE blk B (L - tkP B L i) (tkP B L i))).2
def tkJ (B : Nat → Int32) (L i : Nat) : Nat := rnE blk B (L - tkP B L i) (tkP B L i)
def tkK (B : Nat → Int32) (L i : Nat) : Tk := (tkA B L (tkJ B L i)).1
theorem rnE_b {p : Int32 → Bool} {B : Nat → Int32} : ∀ d j, j ≤ rnE p B d j ∧ rnE p B d j ≤ j + d
  | 0, j => ⟨Nat.le_refl _, Nat.le_refl _⟩
  | d + 1, j => by
    unfold rnE
    have := rnE_b (p := p) (B := B) d (j + 1)
    split <;> omega
theorem rnE_1 {p : Int32 → Bool} {B : Nat → Int32} {d j : Nat} (h : p (B j) = true) (hd : 0 < d) : j < rnE p B d j := by
  obtain ⟨d, rfl⟩ : ∃ x, d = x + 1 := ⟨d - 1, by omega⟩
  unfold rnE
  rw [if_pos h]
  have := rnE_b (p := p) (B := B) d (j + 1)
  omega
theorem tkA_n {B : Nat → Int32} {L j : Nat} (h : j ≤ L) : (tkA B L j).2 ≤ L ∧ (j < L → j < (tkA B L j).2) := by
  unfold tkA
  by_cases h1 : L ≤ j
  · rw [if_pos h1]
    exact ⟨h, fun q => absurd h1 (by omega)⟩
  · rw [if_neg h1]
    by_cases h2 : ltr (B j) = true
    · rw [if_pos h2]
      have := rnE_b (p := ltr) (B := B) (L - j) j
      exact ⟨by show rnE ltr B (L - j) j ≤ L; omega, fun _ => rnE_1 h2 (by omega)⟩
    · rw [if_neg h2]
      by_cases h3 : dgt (B j) = true
      · rw [if_pos h3]
        have := rnE_b (p := dgt) (B := B) (L - j) j
        exact ⟨by show rnE dgt B (L - j) j ≤ L; omega, fun _ => rnE_1 h3 (by omega)⟩
      · rw [if_neg h3]
        exact ⟨by show j + 1 ≤ L; omega, fun _ => Nat.lt_succ_self _⟩
theorem tkJ_L {B : Nat → Int32} {L : Nat} : ∀ i, tkP B L i ≤ L ∧ tkJ B L i ≤ L
  | 0 => by
    have := rnE_b (p := blk) (B := B) (L - 0) 0
    refine ⟨Nat.zero_le _, ?_⟩
    show rnE blk B (L - 0) 0 ≤ L
    omega
  | i + 1 => by
    have h := tkJ_L (B := B) (L := L) i
    have h2 : tkP B L (i + 1) ≤ L := (tkA_n h.2).1
    have := rnE_b (p := blk) (B := B) (L - tkP B L (i + 1)) (tkP B L (i + 1))
    refine ⟨h2, ?_⟩
    show rnE blk B (L - tkP B L (i + 1)) (tkP B L (i + 1)) ≤ L
    omega
theorem kwf_b {v : Int64} : ∀ (l : List Int64) (w : Nat), kwf l w v ≤ w + l.length
  | [], w => Nat.le_refl _
  | k :: r, w => by
    unfold kwf
    have := kwf_b (v := v) r (w + 1)
    simp only [List.length_cons]
    split <;> omega
theorem sgk_b (b : Int32) : 24 ≤ sgk b ∧ sgk b ≤ 34 ∧ sgk b ≠ 33 := by
  unfold sgk
  repeat' split
  all_goals decide
theorem ivV_b {B : Nat → Int32} : ∀ (d j n m : Nat), n < 10 ^ m → m + (rnE dgt B d j - j) ≤ 4 → ∃ n', n' < 10000 ∧ ivV B d j (nI n) = nI n'
  | 0, j, n, m, h, h4 => ⟨n, Nat.lt_of_lt_of_le h (Nat.le_trans (Nat.pow_le_pow_right (by omega) (show m ≤ 4 by omega)) (by decide)), rfl⟩
  | d + 1, j, n, m, h, h4 => by
    unfold rnE at h4
    unfold ivV
    by_cases y : dgt (B j) = true
    · rw [if_pos y] at h4 ⊢
      have hb := rnE_b (p := dgt) (B := B) d (j + 1)
      have y2 := dgt_t.mp y
      obtain ⟨x, hx, e⟩ : ∃ x, x ≤ 9 ∧ B j = nI (48 + x) := ⟨(B j).toInt.toNat - 48, by omega, by
        rw [show 48 + ((B j).toInt.toNat - 48) = (B j).toInt.toNat by omega]
        exact nn_get (by omega)⟩
      have hp : 10 ^ m ≤ 10 ^ 3 := Nat.pow_le_pow_right (by omega) (by omega)
      rw [e, show ((nI n * 10 + nI (48 + x)) - 48 : Int32) = nI (n * 10 + x) by
        rw [show (10 : Int32) = nI 10 from rfl, show (48 : Int32) = nI 48 from rfl, nn_mul, nn_add, nn_sub (by omega)]
        congr 1
        omega]
      exact ivV_b d (j + 1) (n * 10 + x) (m + 1) (by rw [Nat.pow_succ]; omega) (by omega)
    · rw [if_neg y] at h4 ⊢
      exact ⟨n, Nat.lt_of_lt_of_le h (Nat.le_trans (Nat.pow_le_pow_right (by omega) (show m ≤ 4 by omega)) (by decide)), rfl⟩
theorem tkK_34 {B : Nat → Int32} {L i : Nat} : (tkK B L i).1 ≤ 34 := by
  unfold tkK tkA
  split
  · show (33 : Nat) ≤ 34
    decide
  · split
    · show (if _ then _ else _) ≤ 34
      split
      · have := kwf_b (v := wdV B (L - tkJ B L i) (tkJ B L i) 0) kyL 0
        rw [show kyL.length = 22 from rfl] at this
        omega
      · omega
    · split
      · show (if _ then _ else _) ≤ 34
        split <;> omega
      · exact (sgk_b _).2.1
theorem tkK_v {B : Nat → Int32} {L i : Nat} (h : (tkK B L i).1 = 23) : ∃ n, n < 10000 ∧ (tkK B L i).2.2.1 = nI n := by
  unfold tkK tkA at h ⊢
  split at h
  · exact absurd h (by simp)
  · rename_i h0
    rw [if_neg h0]
    split at h
    · have h1 : (if rnE ltr B (L - tkJ B L i) (tkJ B L i) - tkJ B L i ≤ 8 then kwf kyL 0 (wdV B (L - tkJ B L i) (tkJ B L i) 0) else 34) = 23 := h
      split at h1
      · have := kwf_b (v := wdV B (L - tkJ B L i) (tkJ B L i) 0) kyL 0
        rw [show kyL.length = 22 from rfl] at this
        omega
      · omega
    · rename_i h2
      rw [if_neg h2]
      split at h
      · rename_i h3
        rw [if_pos h3]
        have h1 : (if rnE dgt B (L - tkJ B L i) (tkJ B L i) - tkJ B L i ≤ 4 then 23 else 34) = 23 := h
        split at h1
        · rename_i h4
          exact ivV_b (L - tkJ B L i) (tkJ B L i) 0 0 (by decide) (by omega)
        · omega
      · have h1 : sgk (B (tkJ B L i)) = 23 := h
        have := sgk_b (B (tkJ B L i))
        omega
theorem lg0 {x y : Int64} : lg_cmp x y = 0 ↔ x = y := by
  unfold lg_cmp
  by_cases h : x = y
  · subst h
    rw [if_neg (show ¬ x > x from Int64.lt_irrefl), if_pos rfl]
    exact ⟨fun _ => rfl, fun _ => rfl⟩
  · constructor
    · intro q
      split at q <;> exact absurd q (by decide)
    · exact fun q => absurd q h
/-! the class: letters, digits, blanks -/
theorem p_ltrC {F : Nat} {b : Int32} {μ : Mm} : fX7_isLetter F b μ = some (b01 (ltr b), μ) := by
  unfold fX7_isLetter b01
  have h := ltr_t (b := b)
  by_cases h1 : b.toInt < 97
  · rw [if_pos (show b < 97 from i_lt.mpr h1), if_neg (fun q => by have := h.mp q; omega)]
  · rw [if_neg (show ¬ b < 97 from fun q => h1 (i_lt.mp q))]
    by_cases h2 : 122 < b.toInt
    · rw [if_pos (show 122 < b from i_lt.mpr h2), if_neg (fun q => by have := h.mp q; omega)]
    · rw [if_neg (show ¬ 122 < b from fun q => h2 (i_lt.mp q)), if_pos (h.mpr (by omega))]
theorem p_dgtC {F : Nat} {b : Int32} {μ : Mm} : fX7_isDigit F b μ = some (b01 (dgt b), μ) := by
  unfold fX7_isDigit b01
  have h := dgt_t (b := b)
  by_cases h1 : b.toInt < 48
  · rw [if_pos (show b < 48 from i_lt.mpr h1), if_neg (fun q => by have := h.mp q; omega)]
  · rw [if_neg (show ¬ b < 48 from fun q => h1 (i_lt.mp q))]
    by_cases h2 : 57 < b.toInt
    · rw [if_pos (show 57 < b from i_lt.mpr h2), if_neg (fun q => by have := h.mp q; omega)]
    · rw [if_neg (show ¬ 57 < b from fun q => h2 (i_lt.mp q)), if_pos (h.mpr (by omega))]
theorem p_blkC {F : Nat} {b : Int32} {μ : Mm} : fX7_isBlank F b μ = some (b01 (blk b), μ) := by
  unfold fX7_isBlank b01 fX7_isBlank_L24
  have h := blk_t (b := b)
  by_cases h1 : b = 9
  · rw [if_pos h1, if_pos (h.mpr (Or.inl h1))]
  · by_cases h2 : b = 10
    · rw [if_neg h1, if_pos h2, if_pos (h.mpr (Or.inr (Or.inl h2)))]
    · by_cases h3 : b = 13
      · rw [if_neg h1, if_neg h2, if_pos h3, if_pos (h.mpr (Or.inr (Or.inr (Or.inl h3))))]
      · by_cases h4 : b = 32
        · rw [if_neg h1, if_neg h2, if_neg h3, if_pos h4, if_pos (h.mpr (Or.inr (Or.inr (Or.inr h4))))]
        · rw [if_neg h1, if_neg h2, if_neg h3, if_neg h4, if_neg (fun q => by
            rcases h.mp q with y | y | y | y
            · exact h1 y
            · exact h2 y
            · exact h3 y
            · exact h4 y)]
/-- the tape holds L bytes, B -/
def BtC (B : Nat → Int32) (L : Nat) (μ : Mm) : Prop := L ≤ 2000 ∧ gi μ 7 0 0 = nI L ∧ ∀ j, j < L → gi μ 29 0 j = B j
theorem p_byC {F L j : Nat} {B : Nat → Int32} {μ : Mm} (h : BtC B L μ) (hj : j < L) : fX7_byteAt F (nI j) μ = some (B j, μ) := by
  obtain ⟨h1, h2, h3⟩ := h
  unfold fX7_byteAt
  rw [if_neg (nn_neg (by omega)), h2, if_neg (by rw [nn_le (by omega) (by omega)]; omega), if_pos ((nn_inb (by omega)).mpr (by omega)), nn_cl (by omega), h3 j hj]
theorem p_bbC {F L : Nat} {B : Nat → Int32} {μ : Mm} (h : BtC B L μ) : ∀ (d n j : Nat), j + d = L → d < n → fX7_behindBlanks_L2 F n (nI j) μ = some (nI (rnE blk B d j), μ)
  | _, 0, _, _, q => absurd q (Nat.not_lt_zero _)
  | 0, n + 1, j, h1, h2 => by
    have hL := h.1
    rw [fX7_behindBlanks_L2, h.2.1, if_pos (by rw [nn_le (by omega) (by omega)]; omega)]
    rfl
  | d + 1, n + 1, j, h1, h2 => by
    have hL := h.1
    rw [fX7_behindBlanks_L2, h.2.1, if_neg (by rw [nn_le (by omega) (by omega)]; omega), p_byC h (by omega), bd2_s, p_blkC, bd2_s]
    unfold rnE
    by_cases y : blk (B j) = true
    · rw [y, show b01 true = 1 from rfl, if_neg n1_0, if_pos rfl, nn_s]
      exact p_bbC h d n (j + 1) (by omega) (by omega)
    · have yf : blk (B j) = false := by simpa using y
      rw [yf, show b01 false = 0 from rfl, if_pos rfl, if_neg (by decide)]
theorem p_swL {F L : Nat} {B : Nat → Int32} {μ : Mm} {v1 v2 : Int32} (h : BtC B L μ) : ∀ (d n j : Nat) (v : Int64), j + d = L → d < n → fX7_scanWord_L5 F n v1 v2 (nI j) v μ = fX7_scanWord_L42 F v1 v2 (nI (rnE ltr B d j)) (wdV B d j v) μ
  | _, 0, _, _, _, q => absurd q (Nat.not_lt_zero _)
  | 0, n + 1, j, v, h1, h2 => by
    have hL := h.1
    rw [fX7_scanWord_L5, h.2.1, if_pos (by rw [nn_le (by omega) (by omega)]; omega)]
    rfl
  | d + 1, n + 1, j, v, h1, h2 => by
    have hL := h.1
    rw [fX7_scanWord_L5, h.2.1, if_neg (by rw [nn_le (by omega) (by omega)]; omega), p_byC h (by omega), bd2_s, p_ltrC, bd2_s]
    unfold rnE wdV
    by_cases y : ltr (B j) = true
    · rw [y, show b01 true = 1 from rfl, if_neg n1_0, if_pos rfl, if_pos rfl, p_byC h (by omega), bd2_s]
      unfold fX7_withLetter
      rw [bd2_s, nn_s]
      exact p_swL h d n (j + 1) _ (by omega) (by omega)
    · have yf : ltr (B j) = false := by simpa using y
      rw [yf, show b01 false = 0 from rfl, if_pos rfl, if_neg (by decide), if_neg (by decide)]
theorem p_siL {F L : Nat} {B : Nat → Int32} {μ : Mm} {v1 v2 : Int32} (h : BtC B L μ) : ∀ (d n j : Nat) (v : Int32), j + d = L → d < n → fX7_scanInt_L5 F n v1 v2 (nI j) v μ = fX7_scanInt_L46 F v1 v2 (nI (rnE dgt B d j)) (ivV B d j v) μ
  | _, 0, _, _, _, q => absurd q (Nat.not_lt_zero _)
  | 0, n + 1, j, v, h1, h2 => by
    have hL := h.1
    rw [fX7_scanInt_L5, h.2.1, if_pos (by rw [nn_le (by omega) (by omega)]; omega)]
    rfl
  | d + 1, n + 1, j, v, h1, h2 => by
    have hL := h.1
    rw [fX7_scanInt_L5, h.2.1, if_neg (by rw [nn_le (by omega) (by omega)]; omega), p_byC h (by omega), bd2_s, p_dgtC, bd2_s]
    unfold rnE ivV
    by_cases y : dgt (B j) = true
    · rw [y, show b01 true = 1 from rfl, if_neg n1_0, if_pos rfl, if_pos rfl, p_byC h (by omega), bd2_s, nn_s]
      exact p_siL h d n (j + 1) _ (by omega) (by omega)
    · have yf : dgt (B j) = false := by simpa using y
      rw [yf, show b01 false = 0 from rfl, if_pos rfl, if_neg (by decide), if_neg (by decide)]
/-! the words -/
def ch (i : Nat) : Int32 := i2c (((bytS.getD 0 []).getD i 0) &&& 255)
theorem p_chr {F i : Nat} {μ : Mm} (hi : i < 125) : fJ0_charAt_5068e_w0 F (nI i) μ = some (ch i, μ) := by
  unfold fJ0_charAt_5068e_w0 fJ0_isLatin1_aae02_w0 fJ1_charAt_3b067_w0 fJ0_checkIndex_df160 fJ3_checkIndex_8e157
  rw [bd2_s, if_neg n1_0, if_neg (nn_neg (by omega)), if_pos (by rw [show (125 : Int32) = nI 125 from rfl, nn_lt (by omega) (by omega)]; exact hi), bd2_s, bd1_s, if_pos ((nn_inb (by omega)).mpr hi), nn_cl (by omega), bd2_s]
  rfl
theorem p_len0 {F : Nat} {μ : Mm} : fJ0_length_8abf5_w0 F μ = some (nI 125, μ) := by
  unfold fJ0_length_8abf5_w0 fJ0_coder_7d493_w0
  rw [bd2_s, show ((125 : Int32) >>> ((0 : Int32) &&& 31)) = nI 125 by decide]
theorem p_len1 {F : Nat} {μ : Mm} : fJ0_length_8abf5_w1 F μ = some (9, μ) := by
  unfold fJ0_length_8abf5_w1 fJ0_coder_7d493_w1
  rw [bd2_s, show ((9 : Int32) >>> ((0 : Int32) &&& 31)) = 9 by decide]
def kwn (v : Int64) : Nat → Nat → Int32 → Int64 → Int32
  | 0, _, _, _ => 22
  | d + 1, i, w, k => if ch i = 32 then (if k = v then w else kwn v d (i + 1) (w + 1) 0) else kwn v d (i + 1) w (k * 27 + ((ch i - 97) + 1).toInt64)
theorem p_kwL {F : Nat} {v : Int64} {μ : Mm} : ∀ (d n i : Nat) (w : Int32) (k : Int64), i + d = 125 → d < n → fX7_kindOfWord_L7 F n v w k (nI i) μ = some (kwn v d i w k, μ)
  | _, 0, _, _, _, _, q => absurd q (Nat.not_lt_zero _)
  | 0, n + 1, i, w, k, h1, h2 => by
    rw [fX7_kindOfWord_L7, p_len0, bd2_s, if_pos (by rw [nn_le (by omega) (by omega)]; omega)]
    rfl
  | d + 1, n + 1, i, w, k, h1, h2 => by
    rw [fX7_kindOfWord_L7, p_len0, bd2_s, if_neg (by rw [nn_le (by omega) (by omega)]; omega), p_chr (by omega), bd2_s]
    unfold fX7_kindOfWord_L56 kwn
    by_cases y : ch i = 32
    · rw [if_pos y, if_pos y]
      by_cases z : k = v
      · rw [if_pos (lg0.mpr z), if_pos z]
      · rw [if_neg (fun q => z (lg0.mp q)), if_neg z, nn_s]
        exact p_kwL d n (i + 1) _ _ (by omega) (by omega)
    · rw [if_neg y, if_neg y]
      unfold fX7_withLetter
      rw [bd2_s, nn_s]
      exact p_kwL d n (i + 1) _ _ (by omega) (by omega)
theorem kwn_s {v : Int64} {d i : Nat} {w : Int32} {k : Int64} : kwn v (d + 1) i w k = if ch i = 32 then (if k = v then w else kwn v d (i + 1) (w + 1) 0) else kwn v d (i + 1) w (k * 27 + ((ch i - 97) + 1).toInt64) := rfl
def hw : Nat → Nat → Int64 → Int64
  | _, 0, k => k
  | i, m + 1, k => hw (i + 1) m (k * 27 + ((ch i - 97) + 1).toInt64)
theorem kwn_w {v : Int64} {d : Nat} {w : Int32} : ∀ (m i : Nat) (k : Int64), (∀ z, z < m → ch (i + z) ≠ 32) → ch (i + m) = 32 → kwn v (d + m + 1) i w k = if hw i m k = v then w else kwn v d (i + m + 1) (w + 1) 0
  | 0, i, k, h1, h2 => by
    rw [show d + 0 + 1 = d + 1 from rfl, kwn_s, if_pos (show ch i = 32 from h2)]
    rfl
  | m + 1, i, k, h1, h2 => by
    rw [show d + (m + 1) + 1 = d + m + 1 + 1 by omega, kwn_s, if_neg (show ¬ ch i = 32 from h1 0 (by omega)), kwn_w m (i + 1) _ (fun z hz => by
      have := h1 (z + 1) (by omega)
      rw [show i + 1 + z = i + (z + 1) by omega]
      exact this) (by rw [show i + 1 + m = i + (m + 1) by omega]; exact h2), show i + 1 + m + 1 = i + (m + 1) + 1 by omega]
    rfl
def lens : List Nat := [6, 6, 5, 5, 4, 5, 4, 5, 4, 4, 2, 4, 4, 4, 5, 5, 4, 5, 6, 5, 5, 6]
def tot : List Nat → Nat
  | [] => 0
  | m :: r => tot r + m + 1
def hsh : List Nat → Nat → List Int64
  | [], _ => []
  | m :: r, i => hw i m 0 :: hsh r (i + m + 1)
def okw : List Nat → Nat → Bool
  | [], _ => true
  | m :: r, i => (List.range m).all (fun z => ch (i + z) != 32) && (ch (i + m) == 32) && okw r (i + m + 1)
theorem kwn_l {v : Int64} : ∀ (l : List Nat) (i w : Nat), okw l i = true → w + l.length = 22 → kwn v (tot l) i (nI w) 0 = nI (kwf (hsh l i) w v)
  | [], i, w, h, h2 => by
    simp only [List.length_nil, Nat.add_zero] at h2
    rw [h2]
    rfl
  | m :: r, i, w, h, h2 => by
    unfold okw at h
    simp only [Bool.and_eq_true, List.all_eq_true, List.mem_range, bne_iff_ne, beq_iff_eq] at h
    simp only [List.length_cons] at h2
    unfold tot hsh kwf
    rw [kwn_w m i 0 (fun z hz => h.1.1 z hz) h.1.2]
    by_cases y : hw i m 0 = v
    · rw [if_pos y, if_pos y]
    · rw [if_neg y, if_neg y, nn_s]
      exact kwn_l r (i + m + 1) (w + 1) h.2 (by omega)
theorem p_kow {F : Nat} {v : Int64} {μ : Mm} (hF : 1000 ≤ F) : fX7_kindOfWord F v μ = some (nI (kwf kyL 0 v), μ) := by
  unfold fX7_kindOfWord
  rw [show (0 : Int32) = nI 0 from rfl, p_kwL 125 F 0 (nI 0) 0 rfl (by omega)]
  have h := kwn_l (v := v) lens 0 0 (by decide +kernel) rfl
  rw [show tot lens = 125 from rfl, show hsh lens 0 = kyL by decide +kernel] at h
  rw [h]
