/-! PURE: read, the reference's scanning -/
theorem u8_p {b : Int32} (h : 0 ≤ b.toInt) (h2 : b.toInt ≤ 127) : b &&& 255 = b := by
  obtain ⟨n, hn, rfl⟩ : ∃ n, n < 128 ∧ b = nI n := ⟨b.toInt.toNat, by omega, nn_get h⟩
  rw [pk_andN (n := n) (by omega) (m := 255) 8 (by decide), Nat.mod_eq_of_lt (by omega)]
theorem u8_n {b : Int32} (h : b.toInt < 0) (h2 : -128 ≤ b.toInt) : ∃ m, 128 ≤ m ∧ m ≤ 255 ∧ b &&& 255 = nI m := by
  have h1 := pk_and b (m := 255) 8 (by decide)
  have h3 : b.toInt = b.toBitVec.toInt := rfl
  rw [BitVec.toInt_eq_toNat_bmod, Int.bmod_def] at h3
  refine ⟨b.toBitVec.toNat % 2 ^ 8, ?_, by omega, h1⟩
  split at h3 <;> omega
theorem u8_k {b : Int32} (h : -128 ≤ b.toInt) (h2 : b.toInt ≤ 127) : blk (b &&& 255) = blk b ∧ ltr (b &&& 255) = ltr b ∧ dgt (b &&& 255) = dgt b := by
  by_cases h0 : 0 ≤ b.toInt
  · rw [u8_p h0 h2]
    exact ⟨rfl, rfl, rfl⟩
  · obtain ⟨m, m1, m2, e⟩ := u8_n (b := b) (by omega) h
    have t : (nI m).toInt = m := nI_toInt (by omega)
    rw [e]
    have f : ∀ {x y : Bool}, ¬ x = true → ¬ y = true → x = y := fun {x y} p q => by
      cases x
      · cases y
        · rfl
        · exact absurd rfl q
      · exact absurd rfl p
    refine ⟨f (fun q => ?_) (fun q => ?_), f (fun q => ?_) (fun q => ?_), f (fun q => ?_) (fun q => ?_)⟩
    · rcases blk_t.mp q with y | y | y | y
      · have := i_eq.mp y
        rw [t, show (9 : Int32).toInt = 9 from rfl] at this
        omega
      · have := i_eq.mp y
        rw [t, show (10 : Int32).toInt = 10 from rfl] at this
        omega
      · have := i_eq.mp y
        rw [t, show (13 : Int32).toInt = 13 from rfl] at this
        omega
      · have := i_eq.mp y
        rw [t, show (32 : Int32).toInt = 32 from rfl] at this
        omega
    · rcases blk_t.mp q with y | y | y | y
      · rw [y] at h0
        exact h0 (by decide)
      · rw [y] at h0
        exact h0 (by decide)
      · rw [y] at h0
        exact h0 (by decide)
      · rw [y] at h0
        exact h0 (by decide)
    · have := ltr_t.mp q
      omega
    · have := ltr_t.mp q
      omega
    · have := dgt_t.mp q
      omega
    · have := dgt_t.mp q
      omega
theorem p_ltrR {F : Nat} {b : Int32} {μ : Mm} : fX12_isLetter F b μ = some (b01 (ltr b), μ) := p_ltrC (F := F) (b := b) (μ := μ)
theorem p_dgtR {F : Nat} {b : Int32} {μ : Mm} : fX12_isDigit F b μ = some (b01 (dgt b), μ) := p_dgtC (F := F) (b := b) (μ := μ)
def BtR (B : Nat → Int32) (L : Nat) (ν : Mm) : Prop := L ≤ 2000 ∧ gi ν 12 0 4 = nI L ∧ ∀ j, j < L → gi ν 49 0 j = B j
theorem p_byR {F L j : Nat} {B : Nat → Int32} {ν : Mm} (h : BtR B L ν) (hj : j < 100000) : fX12_byteAt F (nI j) ν = some (if j < L then B j &&& 255 else 0, ν) := by
  obtain ⟨h1, h2, h3⟩ := h
  unfold fX12_byteAt
  rw [h2]
  by_cases y : j < L
  · rw [if_neg (by rw [nn_le (by omega) (by omega)]; omega), if_pos ((nn_inb (by omega)).mpr (by omega)), nn_cl (by omega), h3 j y, if_pos y]
  · rw [if_pos (by rw [nn_le (by omega) (by omega)]; omega), if_neg y]
def kmL : List Int32 := [20, 21, 22, 23, 24, 25, 26, 27, 28, 29, 30, 31, 32, 33, 34, 35, 36, 37, 38, 39, 40, 41, 1, 2, 4, 5, 8, 9, 10, 15, 13, 6, 7, 0, 3]
/-- a kind, as the reference has it -/
def km (k : Nat) : Int32 := kmL.getD k 3
/-! the reference's words -/
def lastm (v : Int64) : Nat → Nat → Int32 → Int32
  | 0, _, s => s
  | d + 1, i, s => lastm v d (i + 1) (if kyL.getD i 0 = v then 20 + nI i else s)
theorem p_146 {F : Nat} {K : Int32 → Mm → Option Mm} {v1 v3 : Int32} {v : Int64} {ν : Mm} (h : KY ν) : ∀ (d n i : Nat) (s : Int32), i + d = 22 → d < n → fX12_cut_L146 F K n v1 v3 v s (nI i) ν = fX12_cut_L179 F K v1 v3 v (lastm v d i s) ν
  | _, 0, _, _, _, q => absurd q (Nat.not_lt_zero _)
  | 0, n + 1, i, s, h1, h2 => by
    rw [fX12_cut_L146, if_pos (by rw [show (22 : Int32) = nI 22 from rfl, nn_le (by omega) (by omega)]; omega)]
    rfl
  | d + 1, n + 1, i, s, h1, h2 => by
    rw [fX12_cut_L146, if_neg (by rw [show (22 : Int32) = nI 22 from rfl, nn_le (by omega) (by omega)]; omega), if_pos ((nn_inb (by omega)).mpr (by omega)), nn_cl (by omega), h i (by omega)]
    unfold fX12_cut_L173
    rw [nn_s, show lastm v (d + 1) i s = lastm v d (i + 1) (if kyL.getD i 0 = v then 20 + nI i else s) from rfl]
    by_cases y : kyL.getD i 0 = v
    · rw [if_pos (lg0.mpr y), if_pos y]
      exact p_146 h d n (i + 1) _ (by omega) (by omega)
    · rw [if_neg (fun q => y (lg0.mp q)), if_neg y]
      exact p_146 h d n (i + 1) _ (by omega) (by omega)
theorem lastm_n {v : Int64} : ∀ (d i : Nat) (s : Int32), (∀ z, i ≤ z → z < i + d → kyL.getD z 0 ≠ v) → lastm v d i s = s
  | 0, i, s, h => rfl
  | d + 1, i, s, h => by
    unfold lastm
    rw [if_neg (h i (by omega) (by omega))]
    exact lastm_n d (i + 1) s (fun z a b => h z (by omega) (by omega))
theorem kwf_n {v : Int64} : ∀ (l : List Int64) (w : Nat), ¬ v ∈ l → kwf l w v = w + l.length
  | [], w, _ => rfl
  | k :: r, w, h => by
    unfold kwf
    rw [if_neg (fun q => h (by rw [q]; exact List.mem_cons_self)), kwf_n r (w + 1) (fun q => h (List.mem_cons_of_mem _ q)), List.length_cons]
    omega
theorem lastm_k (v : Int64) : lastm v 22 0 1 = km (kwf kyL 0 v) := by
  by_cases h : v ∈ kyL
  · have e : ∀ v ∈ kyL, lastm v 22 0 1 = km (kwf kyL 0 v) := by decide +kernel
    exact e v h
  · rw [kwf_n kyL 0 h, lastm_n 22 0 1 (fun z _ hz q => h (by
      rw [← q]
      have hz2 : z < kyL.length := by
        rw [show kyL.length = 22 from rfl]
        omega
      rw [List.getD_eq_getElem?_getD, List.getElem?_eq_getElem hz2]
      exact List.getElem_mem hz2))]
    rfl
theorem p_85R {F L i0 : Nat} {B : Nat → Int32} {K : Int32 → Mm → Option Mm} {ν : Mm} (hb : ∀ j, j < L → -128 ≤ (B j).toInt ∧ (B j).toInt ≤ 127) (h : BtR B L ν) : ∀ (d n c : Nat) (v : Int64), i0 + c + d = L → d < n → ∃ V, fX12_cut_L85 F K n (nI i0) (nI c) v ν = fX12_cut_L135 F K (nI i0) (nI (rnE ltr B d (i0 + c) - i0)) V (if rnE ltr B d (i0 + c) - i0 ≤ 8 then 1 else 3) ν ∧ (rnE ltr B d (i0 + c) - i0 ≤ 8 → V = wdV B d (i0 + c) v)
  | _, 0, _, _, _, q => absurd q (Nat.not_lt_zero _)
  | 0, n + 1, c, v, h1, h2 => by
    have hL := h.1
    rw [fX12_cut_L85, nn_add, p_byR h (by omega), bd2_s, p_ltrR, bd2_s, if_neg (c := i0 + c < L) (by omega), show b01 (ltr 0) = 0 from rfl, if_pos rfl, show rnE ltr B 0 (i0 + c) = i0 + c from rfl, Nat.add_sub_cancel_left]
    refine ⟨v, ?_, fun _ => rfl⟩
    by_cases y : c ≤ 8
    · rw [if_pos (by rw [show (8 : Int32) = nI 8 from rfl, nn_le (by omega) (by omega)]; exact y), if_pos y]
    · rw [if_neg (by rw [show (8 : Int32) = nI 8 from rfl, nn_le (by omega) (by omega)]; exact y), if_neg y]
  | d + 1, n + 1, c, v, h1, h2 => by
    have hL := h.1
    have hj := hb (i0 + c) (by omega)
    have hu := u8_k hj.1 hj.2
    have hr := rnE_b (p := ltr) (B := B) d (i0 + c + 1)
    rw [fX12_cut_L85, nn_add, p_byR h (by omega), bd2_s, p_ltrR, bd2_s, if_pos (c := i0 + c < L) (by omega), hu.2.1]
    unfold rnE wdV
    by_cases y : ltr (B (i0 + c)) = true
    · rw [y, show b01 true = 1 from rfl, if_neg n1_0, if_pos rfl, if_pos rfl]
      unfold fX12_cut_L118
      by_cases z : 8 ≤ c
      · rw [if_pos (by rw [show (8 : Int32) = nI 8 from rfl, nn_le (by omega) (by omega)]; exact z), nn_s]
        obtain ⟨V, r1, r2⟩ := p_85R (F := F) (i0 := i0) (K := K) hb h d n (c + 1) v (by omega) (by omega)
        exact ⟨V, r1, fun q => absurd q (by omega)⟩
      · have y2 := ltr_t.mp y
        have hu2 := u8_p (b := B (i0 + c)) (by omega) hj.2
        rw [if_neg (by rw [show (8 : Int32) = nI 8 from rfl, nn_le (by omega) (by omega)]; exact z), p_byR h (by omega), bd2_s, if_pos (c := i0 + c < L) (by omega), hu2]
        unfold fX12_appends
        rw [if_neg (c := B (i0 + c) = 0) (fun q => by rw [q] at y2; exact absurd y2.1 (by decide)), bd2_s, nn_s, Int64.mul_comm]
        exact p_85R (F := F) (i0 := i0) (K := K) hb h d n (c + 1) _ (by omega) (by omega)
    · have yf : ltr (B (i0 + c)) = false := by simpa using y
      rw [yf, show b01 false = 0 from rfl, if_pos rfl]
      simp only [Bool.false_eq_true, if_false, Nat.add_sub_cancel_left]
      refine ⟨v, ?_, fun _ => rfl⟩
      by_cases y : c ≤ 8
      · rw [if_pos (by rw [show (8 : Int32) = nI 8 from rfl, nn_le (by omega) (by omega)]; exact y), if_pos y]
      · rw [if_neg (by rw [show (8 : Int32) = nI 8 from rfl, nn_le (by omega) (by omega)]; exact y), if_neg y]
theorem p_208R {F L i0 : Nat} {B : Nat → Int32} {K : Int32 → Mm → Option Mm} {ν : Mm} (hb : ∀ j, j < L → -128 ≤ (B j).toInt ∧ (B j).toInt ≤ 127) (h : BtR B L ν) : ∀ (d n c : Nat) (v : Int32), i0 + c + d = L → d < n → ∃ V, fX12_cut_L208 F K n (nI i0) (nI c) v ν = fX12_cut_L261 F K (nI i0) (nI (rnE dgt B d (i0 + c) - i0)) V (if rnE dgt B d (i0 + c) - i0 ≤ 4 then 2 else 3) ν ∧ (rnE dgt B d (i0 + c) - i0 ≤ 4 → V = ivV B d (i0 + c) v)
  | _, 0, _, _, _, q => absurd q (Nat.not_lt_zero _)
  | 0, n + 1, c, v, h1, h2 => by
    have hL := h.1
    rw [fX12_cut_L208, nn_add, p_byR h (by omega), bd2_s, p_dgtR, bd2_s, if_neg (c := i0 + c < L) (by omega), show b01 (dgt 0) = 0 from rfl, if_pos rfl, show rnE dgt B 0 (i0 + c) = i0 + c from rfl, Nat.add_sub_cancel_left]
    refine ⟨v, ?_, fun _ => rfl⟩
    by_cases y : c ≤ 4
    · rw [if_pos (by rw [show (4 : Int32) = nI 4 from rfl, nn_le (by omega) (by omega)]; exact y), if_pos y]
    · rw [if_neg (by rw [show (4 : Int32) = nI 4 from rfl, nn_le (by omega) (by omega)]; exact y), if_neg y]
  | d + 1, n + 1, c, v, h1, h2 => by
    have hL := h.1
    have hj := hb (i0 + c) (by omega)
    have hu := u8_k hj.1 hj.2
    have hr := rnE_b (p := dgt) (B := B) d (i0 + c + 1)
    rw [fX12_cut_L208, nn_add, p_byR h (by omega), bd2_s, p_dgtR, bd2_s, if_pos (c := i0 + c < L) (by omega), hu.2.2]
    unfold rnE ivV
    by_cases y : dgt (B (i0 + c)) = true
    · rw [y, show b01 true = 1 from rfl, if_neg n1_0, if_pos rfl, if_pos rfl]
      unfold fX12_cut_L244
      by_cases z : 4 ≤ c
      · rw [if_pos (by rw [show (4 : Int32) = nI 4 from rfl, nn_le (by omega) (by omega)]; exact z), nn_s]
        obtain ⟨V, r1, r2⟩ := p_208R (F := F) (i0 := i0) (K := K) hb h d n (c + 1) v (by omega) (by omega)
        exact ⟨V, r1, fun q => absurd q (by omega)⟩
      · have y2 := dgt_t.mp y
        have hu2 := u8_p (b := B (i0 + c)) (by omega) hj.2
        rw [if_neg (by rw [show (4 : Int32) = nI 4 from rfl, nn_le (by omega) (by omega)]; exact z), p_byR h (by omega), bd2_s, if_pos (c := i0 + c < L) (by omega), hu2, nn_s, Int32.mul_comm]
        exact p_208R (F := F) (i0 := i0) (K := K) hb h d n (c + 1) _ (by omega) (by omega)
    · have yf : dgt (B (i0 + c)) = false := by simpa using y
      rw [yf, show b01 false = 0 from rfl, if_pos rfl]
      simp only [Bool.false_eq_true, if_false, Nat.add_sub_cancel_left]
      refine ⟨v, ?_, fun _ => rfl⟩
      by_cases y : c ≤ 4
      · rw [if_pos (by rw [show (4 : Int32) = nI 4 from rfl, nn_le (by omega) (by omega)]; exact y), if_pos y]
      · rw [if_neg (by rw [show (4 : Int32) = nI 4 from rfl, nn_le (by omega) (by omega)]; exact y), if_neg y]
theorem p_sgR {F : Nat} {b v1 x : Int32} {ν : Mm} (h : -128 ≤ b.toInt) (h2 : b.toInt ≤ 127) : fX12_sign F v1 (b &&& 255) x ν = bd1 (fX12_token F (km (sgk b)) v1 0 0 ν) fun μ11 => some (1, μ11) := by
  by_cases h0 : 0 ≤ b.toInt
  · rw [u8_p h0 h2]
    unfold fX12_sign fX12_sign_L43 fX12_sign_L55 fX12_sign_L65 fX12_sign_L75 fX12_sign_L85 fX12_sign_L95 sgk
    by_cases c1 : b = 59
    · subst c1; rfl
    by_cases c2 : b = 61
    · subst c2; rfl
    by_cases c3 : b = 43
    · subst c3; rfl
    by_cases c4 : b = 45
    · subst c4; rfl
    by_cases c5 : b = 42
    · subst c5; rfl
    by_cases c6 : b = 47
    · subst c6; rfl
    by_cases c7 : b = 60
    · subst c7; rfl
    by_cases c8 : b = 40
    · subst c8; rfl
    by_cases c9 : b = 41
    · subst c9; rfl
    simp only [if_neg c1, if_neg c2, if_neg c3, if_neg c4, if_neg c5, if_neg c6, if_neg c7, if_neg c8, if_neg c9]
    rfl
  · obtain ⟨m, m1, m2, e⟩ := u8_n (b := b) (by omega) h
    have ne : ∀ x : Int32, x.toInt < 128 → ¬ nI m = x := fun x hx q => by
      rw [← q, nI_toInt (by omega)] at hx
      omega
    rw [e, sgk_n (by omega)]
    unfold fX12_sign fX12_sign_L43 fX12_sign_L55 fX12_sign_L65 fX12_sign_L75 fX12_sign_L85 fX12_sign_L95
    simp only [if_neg (ne 59 (by decide)), if_neg (ne 61 (by decide)), if_neg (ne 40 (by decide)), if_neg (ne 41 (by decide)), if_neg (ne 43 (by decide)), if_neg (ne 45 (by decide)), if_neg (ne 42 (by decide)), if_neg (ne 47 (by decide)), if_neg (ne 60 (by decide))]
    rfl
theorem p_tokR {F i : Nat} {k pl v : Int32} {nm : Int64} {ν : Mm} (hi : i < 403) (h : gi ν 12 0 10 = nI i) : fX12_token F k pl v nm ν = some (si (sj (si (si (si ν 50 0 i k) 51 0 i pl) 52 0 i v) 53 0 i nm) 12 0 10 (nI (i + 1))) := by
  have hin : inb (nI i) 403 = true := (nn_inb (by omega)).mpr hi
  have hc : (nI i).toNatClampNeg = i := nn_cl (by omega)
  have e1 : gi (si ν 50 0 i k) 12 0 10 = nI i := (gi_ne (by omega)).trans h
  have e2 : gi (si (si ν 50 0 i k) 51 0 i pl) 12 0 10 = nI i := (gi_ne (by omega)).trans e1
  have e3 : gi (si (si (si ν 50 0 i k) 51 0 i pl) 52 0 i v) 12 0 10 = nI i := (gi_ne (by omega)).trans e2
  have e4 : gi (sj (si (si (si ν 50 0 i k) 51 0 i pl) 52 0 i v) 53 0 i nm) 12 0 10 = nI i := e3
  unfold fX12_token
  rw [h, hc, if_pos hin, e1, hc, if_pos hin, e2, hc, if_pos hin, e3, hc, if_pos hin, e4, nn_s]
def TR1 (K : Nat → Tk) (i : Nat) (ν : Mm) : Prop := gi ν 50 0 i = km (K i).1 ∧ gi ν 51 0 i = (K i).2.1 ∧ ((K i).1 = 23 → gi ν 52 0 i = (K i).2.2.1) ∧ ((K i).1 ≤ 22 → gj ν 53 0 i = (K i).2.2.2)
def TKR (K : Nat → Tk) (N : Nat) (ν : Mm) : Prop := ∀ i, i ≤ N → TR1 K i ν
def FK2 (c _ j : Nat) : Prop := (50 ≤ c ∧ c ≤ 52) ∨ (c = 12 ∧ j = 10)
theorem BtR_fr {B : Nat → Int32} {L : Nat} {P : Nat → Nat → Nat → Prop} {Q : Nat → Prop} {ν ν' : Mm} (h : fr P Q ν ν') (h4 : ¬ P 12 0 4) (h49 : ∀ j, ¬ P 49 0 j) (q : BtR B L ν) : BtR B L ν' := ⟨q.1, (fr_n h h4).trans q.2.1, fun j hj => (fr_n h (h49 j)).trans (q.2.2 j hj)⟩
/-- a TOKEN is put -/
theorem tok_eff {i : Nat} {k pl v : Int32} {nm : Int64} {K : Nat → Tk} {ν : Mm} (hk : k = km (K i).1) (hp : pl = (K i).2.1) (hv : (K i).1 = 23 → v = (K i).2.2.1) (hn : (K i).1 ≤ 22 → nm = (K i).2.2.2) (hT : ∀ z, z < i → TR1 K z ν) : fr FK2 (fun c => c = 53) ν (si (sj (si (si (si ν 50 0 i k) 51 0 i pl) 52 0 i v) 53 0 i nm) 12 0 10 (nI (i + 1))) ∧ gi (si (sj (si (si (si ν 50 0 i k) 51 0 i pl) 52 0 i v) 53 0 i nm) 12 0 10 (nI (i + 1))) 12 0 10 = nI (i + 1) ∧ ∀ z, z < i + 1 → TR1 K z (si (sj (si (si (si ν 50 0 i k) 51 0 i pl) 52 0 i v) 53 0 i nm) 12 0 10 (nI (i + 1))) := by
  refine ⟨fr_tr (fr_tr (fr_tr (fr_tr (fr_si (Or.inl ⟨by omega, by omega⟩)) (fr_si (Or.inl ⟨by omega, by omega⟩))) (fr_si (Or.inl ⟨by omega, by omega⟩))) (fr_sj rfl)) (fr_si (Or.inr ⟨rfl, rfl⟩)), gi_eq, fun z hz => ?_⟩
  by_cases y : z = i
  · subst y
    refine ⟨?_, ?_, fun q => ?_, fun q => ?_⟩
    · rw [gi_ne (by omega), gi_sj, gi_ne (by omega), gi_ne (by omega), gi_eq, hk]
    · rw [gi_ne (by omega), gi_sj, gi_ne (by omega), gi_eq, hp]
    · rw [gi_ne (by omega), gi_sj, gi_eq, hv q]
    · rw [gj_si, gj_eq, hn q]
  · obtain ⟨b1, b2, b3, b4⟩ := hT z (by omega)
    refine ⟨?_, ?_, fun q => ?_, fun q => ?_⟩
    · rw [gi_ne (by omega), gi_sj, gi_ne (by omega), gi_ne (by omega), gi_ne (by omega), b1]
    · rw [gi_ne (by omega), gi_sj, gi_ne (by omega), gi_ne (by omega), gi_ne (by omega), b2]
    · rw [gi_ne (by omega), gi_sj, gi_ne (by omega), gi_ne (by omega), gi_ne (by omega), b3 q]
    · rw [gj_si, gj_ne (by omega), gj_si, gj_si, gj_si, b4 q]
theorem if4 {α : Type} {b : Int32} {A Z : α} : (if b = 9 then A else (if b = 10 then A else (if b = 13 then A else (if b = 32 then A else Z)))) = if blk b = true then A else Z := by
  have h := blk_t (b := b)
  by_cases h1 : b = 9
  · rw [if_pos h1, if_pos (h.mpr (Or.inl h1))]
  · by_cases h2 : b = 10
    · rw [if_neg h1, if_pos h2, if_pos (h.mpr (Or.inr (Or.inl h2)))]
    · by_cases h3 : b = 13
      · rw [if_neg h1, if_neg h2, if_pos h3, if_pos (h.mpr (Or.inr (Or.inr (Or.inl h3))))]
      · by_cases h4 : b = 32
        · rw [if_neg h1, if_neg h2, if_neg h3, if_pos h4, if_pos (h.mpr (Or.inr (Or.inr (Or.inr h4))))]
        · rw [if_neg h1, if_neg h2, if_neg h3, if_neg h4, if_neg (fun q => by
            rcases h.mp q with y | y | y | y
            · exact h1 y
            · exact h2 y
            · exact h3 y
            · exact h4 y)]
theorem p_cutL {F L : Nat} {B : Nat → Int32} (hF : 100000 ≤ F) (hb : ∀ j, j < L → -128 ≤ (B j).toInt ∧ (B j).toInt ≤ 127) : ∀ (n i p : Nat) (ν : Mm), L - p < n → p ≤ L → rnE blk B (L - p) p = tkJ B L i → i ≤ 401 → BtR B L ν → KY ν → gi ν 12 0 10 = nI i → (∀ z, z < i → TR1 (tkK B L) z ν) → (∀ z, z < i → (tkK B L z).1 ≠ 33) → ∃ ν' M, fX12_cut_L7 F n (nI p) ν = some ν' ∧ fr FK2 (fun c => c = 53) ν ν' ∧ M ≤ 400 ∧ TKR (tkK B L) M ν' ∧ (∀ z, z < M → (tkK B L z).1 ≠ 33) ∧ ((tkK B L M).1 = 33 ∨ M = 400)
  | 0, _, _, _, q, _, _, _, _, _, _, _, _ => absurd q (Nat.not_lt_zero _)
  | n + 1, i, p, ν, h1, h2, hJ, hi, hB, hY, h10, hT, h33 => by
    have hL := hB.1
    rw [fX12_cut_L7, h10]
    by_cases i4 : i = 401
    · rw [if_pos (by rw [show (400 : Int32) = nI 400 from rfl, nn_lt (by omega) (by omega)]; omega)]
      exact ⟨ν, 400, rfl, fr_rfl, Nat.le_refl _, fun z hz => hT z (by omega), fun z hz => h33 z (by omega), Or.inr rfl⟩
    rw [if_neg (by rw [show (400 : Int32) = nI 400 from rfl, nn_lt (by omega) (by omega)]; omega), p_byR hB (by omega), bd2_s, hB.2.1]
    by_cases pL : p = L
    · subst pL
      rw [if_neg (c := nI p < nI p) (by rw [nn_lt (by omega) (by omega)]; omega), p_tokR (by omega) h10, bd1_s]
      have e : tkJ B p i = p := by
        rw [← hJ, Nat.sub_self]
        rfl
      have ek : tkK B p i = (33, nI p, 0, 0) := by
        unfold tkK tkA
        rw [e, if_pos (Nat.le_refl _)]
      obtain ⟨f1, f2, f3⟩ := tok_eff (i := i) (k := 0) (pl := nI p) (v := 0) (nm := 0) (K := tkK B p) (ν := ν) (by rw [ek]; rfl) (by rw [ek]) (fun q => by rw [ek]) (fun q => by rw [ek]) hT
      exact ⟨_, i, rfl, f1, by omega, fun z hz => f3 z (by omega), h33, Or.inl (by rw [ek])⟩
    have pl : p < L := by omega
    have hj := hb p pl
    have hu := u8_k hj.1 hj.2
    rw [if_pos (c := nI p < nI L) (by rw [nn_lt (by omega) (by omega)]; exact pl), if_pos pl, if4, hu.1]
    obtain ⟨d, hd⟩ : ∃ d, L - p = d + 1 := ⟨L - p - 1, by omega⟩
    have hJ' := hJ
    rw [hd] at hJ'
    unfold rnE at hJ'
    by_cases y : blk (B p) = true
    · rw [if_pos y] at hJ' ⊢
      unfold fX12_cut_L67 fX12_cut_L291
      rw [nn_s]
      exact p_cutL hF hb n i (p + 1) ν (by omega) (by omega) (by rw [show L - (p + 1) = d by omega]; exact hJ') hi hB hY h10 hT h33
    rw [if_neg y] at hJ' ⊢
    have ek : tkK B L i = (tkA B L p).1 := by
      unfold tkK
      rw [← hJ']
    have eP : tkP B L (i + 1) = (tkA B L p).2 := by
      show (tkA B L (tkJ B L i)).2 = _
      rw [← hJ']
    have hn := tkA_n (B := B) (L := L) (j := p) h2
    -- behind the TOKEN
    have go : ∀ (k v : Int32) (nm : Int64), k = km (tkK B L i).1 → ((tkK B L i).1 = 23 → v = (tkK B L i).2.2.1) → ((tkK B L i).1 ≤ 22 → nm = (tkK B L i).2.2.2) → (tkK B L i).1 ≠ 33 → ∃ ν' M, (bd1 (fX12_token F k (nI p) v nm ν) fun μ => fX12_cut_L7 F n (nI (tkA B L p).2) μ) = some ν' ∧ fr FK2 (fun c => c = 53) ν ν' ∧ M ≤ 400 ∧ TKR (tkK B L) M ν' ∧ (∀ z, z < M → (tkK B L z).1 ≠ 33) ∧ ((tkK B L M).1 = 33 ∨ M = 400) := fun k v nm a1 a2 a3 a4 => by
      rw [p_tokR (by omega) h10, bd1_s]
      obtain ⟨f1, f2, f3⟩ := tok_eff (i := i) (k := k) (pl := nI p) (v := v) (nm := nm) (K := tkK B L) (ν := ν) a1 (by
        rw [ek]
        unfold tkA
        repeat' split
        all_goals rfl) a2 a3 hT
      obtain ⟨ν', M, r1, r2, r3⟩ := p_cutL hF hb n (i + 1) (tkA B L p).2 _ (by have := hn.2 pl; omega) hn.1 (by rw [← eP]; rfl) (by omega) (BtR_fr f1 (by unfold FK2; omega) (fun j => by unfold FK2; omega) hB) (fun k hk => (fr_m f1 (by omega)).trans (hY k hk)) f2 f3 (fun z hz => by
        by_cases w : z = i
        · rw [w]
          exact a4
        · exact h33 z (by omega))
      exact ⟨ν', M, r1, fr_tr f1 r2, r3⟩
    rw [p_ltrR, bd2_s, hu.2.1]
    have nL : ¬ L ≤ p := by omega
    by_cases l1 : ltr (B p) = true
    · rw [l1, show b01 true = 1 from rfl, if_neg n1_0]
      obtain ⟨V, r1, r2⟩ := p_85R (F := F) (i0 := p) (K := fun v1 μ => fX12_cut_L7 F n v1 μ) hb hB (L - p) F 0 0 (by omega) (by omega)
      rw [Nat.add_zero] at r1 r2
      have et : tkA B L p = ((if rnE ltr B (L - p) p - p ≤ 8 then kwf kyL 0 (wdV B (L - p) p 0) else 34, nI p, 0, wdV B (L - p) p 0), rnE ltr B (L - p) p) := by
        unfold tkA
        rw [if_neg nL, if_pos l1]
      rw [et] at ek go
      have hr := rnE_b (p := ltr) (B := B) (L - p) p
      rw [show (nI 0 : Int32) = 0 from rfl] at r1
      rw [r1]
      generalize rnE ltr B (L - p) p = e at r2 hr ek go
      unfold fX12_cut_L135
      have pe : p + (e - p) = e := by omega
      by_cases z : e - p ≤ 8
      · rw [if_neg (by rw [show (8 : Int32) = nI 8 from rfl, nn_lt (by omega) (by omega)]; omega), if_pos z]
        have q6 := p_146 (F := F) (K := fun v1 μ => fX12_cut_L7 F n v1 μ) (v1 := nI p) (v3 := nI (e - p)) (v := V) hY 22 F 0 1 rfl (by omega)
        rw [show (nI 0 : Int32) = 0 from rfl] at q6
        rw [q6, lastm_k, r2 z]
        unfold fX12_cut_L179 fX12_cut_L291
        rw [nn_add, pe]
        rw [if_pos z] at ek
        have hkw := kwf_b (v := wdV B (L - p) p 0) kyL 0
        rw [show kyL.length = 22 from rfl] at hkw
        exact go _ _ _ (by rw [ek]) (fun q => by rw [ek] at q; have q' : kwf kyL 0 (wdV B (L - p) p 0) = 23 := q; omega) (fun q => by rw [ek]) (fun q => by rw [ek] at q; have q' : kwf kyL 0 (wdV B (L - p) p 0) = 33 := q; omega)
      · rw [if_pos (by rw [show (8 : Int32) = nI 8 from rfl, nn_lt (by omega) (by omega)]; omega), if_neg z]
        unfold fX12_cut_L179 fX12_cut_L291
        rw [nn_add, pe]
        rw [if_neg z] at ek
        exact go _ _ _ (by rw [ek]; rfl) (fun q => by rw [ek] at q; exact absurd q (by simp)) (fun q => by rw [ek] at q; exact absurd q (by simp)) (fun q => by rw [ek] at q; exact absurd q (by simp))
    have l1f : ltr (B p) = false := by simpa using l1
    rw [l1f, show b01 false = 0 from rfl, if_pos rfl, p_dgtR, bd2_s, hu.2.2]
    by_cases l2 : dgt (B p) = true
    · rw [l2, show b01 true = 1 from rfl, if_neg n1_0]
      obtain ⟨V, r1, r2⟩ := p_208R (F := F) (i0 := p) (K := fun v1 μ => fX12_cut_L7 F n v1 μ) hb hB (L - p) F 0 0 (by omega) (by omega)
      rw [Nat.add_zero] at r1 r2
      have et : tkA B L p = ((if rnE dgt B (L - p) p - p ≤ 4 then 23 else 34, nI p, ivV B (L - p) p 0, 0), rnE dgt B (L - p) p) := by
        unfold tkA
        rw [if_neg nL, if_neg l1, if_pos l2]
      rw [et] at ek go
      have hr := rnE_b (p := dgt) (B := B) (L - p) p
      rw [show (nI 0 : Int32) = 0 from rfl] at r1
      rw [r1]
      generalize rnE dgt B (L - p) p = e at r2 hr ek go
      unfold fX12_cut_L261 fX12_cut_L291
      have pe : p + (e - p) = e := by omega
      rw [nn_add, pe]
      by_cases z : e - p ≤ 4
      · rw [if_pos z] at ek ⊢
        exact go _ _ _ (by rw [ek]; rfl) (fun q => by rw [ek]; exact r2 z) (fun q => by rw [ek] at q; exact absurd q (by simp)) (fun q => by rw [ek] at q; exact absurd q (by simp))
      · rw [if_neg z] at ek ⊢
        exact go _ _ _ (by rw [ek]; rfl) (fun q => by rw [ek] at q; exact absurd q (by simp)) (fun q => by rw [ek] at q; exact absurd q (by simp)) (fun q => by rw [ek] at q; exact absurd q (by simp))
    have l2f : dgt (B p) = false := by simpa using l2
    have et : tkA B L p = ((sgk (B p), nI p, 0, 0), p + 1) := by
      unfold tkA
      rw [if_neg nL, if_neg l1, if_neg l2]
    rw [et] at ek go
    have sb := sgk_b (B p)
    rw [l2f, show b01 false = 0 from rfl, if_pos rfl, nn_s, p_byR hB (by omega), bd2_s, p_sgR hj.1 hj.2]
    unfold fX12_cut_L291
    have q := go (km (sgk (B p))) 0 0 (by rw [ek]) (fun q => by rw [ek]) (fun q => by rw [ek]) (fun q => by rw [ek] at q; exact sb.2.2 q)
    rw [p_tokR (by omega) h10] at q ⊢
    rw [bd1_s] at q
    rw [bd1_s, bd2_s, nn_s]
    exact q
