/-! PURE: read, LAWS; the reference -/
def FLw (c i j : Nat) : Prop := FRe c i j ∨ (63 ≤ c ∧ c ≤ 69) ∨ (c = 12 ∧ j = 31)
/-- kept: codes outside C .. H, branches outside B0 .. B1, laws but k4 -/
def KpL (B0 B1 C H k4 : Nat) (ν ν' : Mm) : Prop := fr FLw Q0 ν ν' ∧ (∀ c j, c = 70 ∨ c = 71 → (j < C ∨ H ≤ j) → gi ν' c 0 j = gi ν c 0 j) ∧ (∀ c j, 65 ≤ c → c ≤ 69 → (j < B0 ∨ B1 ≤ j) → gi ν' c 0 j = gi ν c 0 j) ∧ ∀ c j, c = 63 ∨ c = 64 → j ≠ k4 → gi ν' c 0 j = gi ν c 0 j
theorem KpL_rfl {B0 B1 C H k4 : Nat} {ν : Mm} : KpL B0 B1 C H k4 ν ν := ⟨fr_rfl, fun _ _ _ _ => rfl, fun _ _ _ _ _ => rfl, fun _ _ _ _ => rfl⟩
theorem KpL_tr {B0 B1 C H k4 : Nat} {ν ν' ν'' : Mm} (h : KpL B0 B1 C H k4 ν ν') (h' : KpL B0 B1 C H k4 ν' ν'') : KpL B0 B1 C H k4 ν ν'' := ⟨fr_tr h.1 h'.1, fun c j a b => (h'.2.1 c j a b).trans (h.2.1 c j a b), fun c j a b d => (h'.2.2.1 c j a b d).trans (h.2.2.1 c j a b d), fun c j a b => (h'.2.2.2 c j a b).trans (h.2.2.2 c j a b)⟩
theorem KpL_w {B0 B1 C H k4 B0' C' : Nat} {ν ν' : Mm} (hB : B0' ≤ B0) (hC : C' ≤ C) (h : KpL B0 B1 C H k4 ν ν') : KpL B0' B1 C' H k4 ν ν' := ⟨h.1, fun c j a b => h.2.1 c j a (by omega), fun c j a b d => h.2.2.1 c j a b (by omega), h.2.2.2⟩
theorem KpL_R {B0 B1 C H k4 : Nat} {ν ν' : Mm} (h : KpR C H ν ν') : KpL B0 B1 C H k4 ν ν' := ⟨fr_of h.1 (fun c i j q => Or.inl q) (fun c q => q), h.2, fun c j a b _ => fr_n h.1 (by unfold FRe; omega), fun c j a b => fr_n h.1 (by unfold FRe; omega)⟩
theorem KpL_B {B0 B1 C H k4 : Nat} {ν ν' : Mm} (h : fr FB Q0 ν ν') : KpL B0 B1 C H k4 ν ν' := KpL_R (KpR_FB h)
theorem KpL_b {B0 B1 C H k4 c0 b : Nat} {x : Int32} {ν : Mm} (h1 : 65 ≤ c0) (h2 : c0 ≤ 69) (h3 : B0 ≤ b) (h4 : b < B1) : KpL B0 B1 C H k4 ν (si ν c0 0 b x) := ⟨fr_si (Or.inr (Or.inl ⟨by omega, h2⟩)), fun c j a b => gi_ne (by omega), fun c j a b d => gi_ne (by omega), fun c j a b => gi_ne (by omega)⟩
theorem KpL_31 {B0 B1 C H k4 : Nat} {x : Int32} {ν : Mm} : KpL B0 B1 C H k4 ν (si ν 12 0 31 x) := ⟨fr_si (Or.inr (Or.inr ⟨rfl, rfl⟩)), fun c j a b => gi_ne (by omega), fun c j a b d => gi_ne (by omega), fun c j a b => gi_ne (by omega)⟩
def FBr (c _ j : Nat) : Prop := (65 ≤ c ∧ c ≤ 69) ∨ (c = 12 ∧ j = 31)
theorem LR_Br {N t : Nat} {K : Nat → Tk} {ν ν' : Mm} (h : fr FBr Q0 ν ν') (q : LR K N t ν) : LR K N t ν' := LR_fr h ⟨by unfold FBr; omega, by unfold FBr; omega⟩ (fun c j h1 h2 => by unfold FBr; omega) q
theorem DdR_Br {e : Int32 × Int32} {ν ν' : Mm} (h : fr FBr Q0 ν ν') (q : DdR e ν) : DdR e ν' := DdR_fr h (fun j hj => by unfold FBr; omega) q
theorem nar1 : vp_nar .boolean 1 = 1 ∧ vp_nar .boolean 0 = 0 := by decide
/-- what is done when a fault was found -/
def DgR (B0 B1 C H k4 m m' : Nat) (f : Mm → Option Mm) : Prop := ∀ e ν b, DdR e ν → B0 ≤ b → b ≤ m → gi ν 12 0 31 = nI b → ∃ ν' b', f ν = some ν' ∧ KpL B0 B1 C H k4 ν ν' ∧ DdR e ν' ∧ B0 ≤ b' ∧ b' ≤ m' ∧ gi ν' 12 0 31 = nI b'
theorem dr_bd {B0 B1 C H k4 m m1 m2 : Nat} {f g : Mm → Option Mm} (hf : DgR B0 B1 C H k4 m m1 f) (hg : DgR B0 B1 C H k4 m1 m2 g) : DgR B0 B1 C H k4 m m2 (fun ν => bd1 (f ν) g) := fun e ν b h h1 h2 h3 => by
  obtain ⟨ν1, b1, a1, a2, a3, a4, a5, a6⟩ := hf e ν b h h1 h2 h3
  obtain ⟨ν2, b2, c1, c2, c3, c4, c5, c6⟩ := hg e ν1 b1 a3 a4 a5 a6
  refine ⟨ν2, b2, ?_, KpL_tr a2 c2, c3, c4, c5, c6⟩
  show bd1 (f ν) g = some ν2
  rw [a1, bd1_s, c1]
theorem dr_must {F B0 B1 C H k4 m : Nat} {k : Int32} : DgR B0 B1 C H k4 m m (fun ν => fX12_must F k ν) := fun e ν b h h1 h2 h3 => ⟨ν, b, p_mustRd h, KpL_rfl, h, h1, h2, h3⟩
theorem dr_sum {F B0 B1 C H k4 m : Nat} (hF : 1000 ≤ F) : DgR B0 B1 C H k4 m m (fun ν => fX12_expression F ν) := fun e ν b h h1 h2 h3 => by
  obtain ⟨a1, a2⟩ := p_sumRd (F := F) hF h
  exact ⟨_, b, a1, KpL_R (KpR_FV (fr_si (Or.inl ⟨rfl, Or.inr rfl⟩))), a2, h1, h2, (gi_ne (by omega)).trans h3⟩
theorem dr_term {F B0 B1 C H k4 m : Nat} (hm : m < B1) (hB : B1 ≤ 260) : DgR B0 B1 C H k4 m (m + 1) (fun ν => fX12_term F ν) := fun e ν b h h1 h2 h3 => by
  have hin : inb (nI b) 260 = true := (nn_inb (by omega)).mpr (by omega)
  have f1 : fr FBr Q0 ν (si ν 68 0 b (gi ν 12 0 37)) := fr_si (Or.inl ⟨by omega, by omega⟩)
  have d1 := DdR_Br f1 h
  have f2 : fr FBr Q0 (si ν 68 0 b (gi ν 12 0 37)) (si (si (si ν 68 0 b (gi ν 12 0 37)) 69 0 b (gi (si ν 68 0 b (gi ν 12 0 37)) 12 0 37)) 12 0 31 (nI (b + 1))) := fr_tr (fr_si (Or.inl ⟨by omega, by omega⟩)) (fr_si (Or.inr ⟨rfl, rfl⟩))
  refine ⟨si (si (si ν 68 0 b (gi ν 12 0 37)) 69 0 b (gi (si ν 68 0 b (gi ν 12 0 37)) 12 0 37)) 12 0 31 (nI (b + 1)), b + 1, ?_, KpL_tr (KpL_tr (KpL_b (by omega) (by omega) h1 (by omega)) (KpL_b (by omega) (by omega) h1 (by omega))) KpL_31, DdR_Br f2 d1, by omega, by omega, gi_eq⟩
  show fX12_term F ν = _
  unfold fX12_term fX12_term_L24
  rw [h3, if_pos hin, nn_cl (by omega), if_neg (deadR d1).1, show gi (si ν 68 0 b (gi ν 12 0 37)) 12 0 31 = nI b from (gi_ne (by omega)).trans h3, if_pos hin, nn_cl (by omega), show gi (si (si ν 68 0 b (gi ν 12 0 37)) 69 0 b (gi (si ν 68 0 b (gi ν 12 0 37)) 12 0 37)) 12 0 31 = nI b from (gi_ne (by omega)).trans ((gi_ne (by omega)).trans h3), nn_s]
theorem dr_129 {F B0 B1 C H k4 m : Nat} {v1 v2 : Int32} (hm : m < B1) (hB : B1 ≤ 260) : DgR B0 B1 C H k4 m (m + 1) (fun ν => fX12_tellLaw_L129 F v1 v2 ν) := fun e ν b h h1 h2 h3 => by
  have hin : inb (nI b) 260 = true := (nn_inb (by omega)).mpr (by omega)
  have f1 : fr FBr Q0 ν (si ν 65 0 b (vp_nar .boolean 0)) := fr_si (Or.inl ⟨by omega, by omega⟩)
  obtain ⟨ν1, b1, a1, a2, a3, a4, a5, a6⟩ := dr_term (F := F) (B0 := B0) (C := C) (H := H) (k4 := k4) hm hB e _ b (DdR_Br f1 h) h1 h2 ((gi_ne (by omega)).trans h3)
  refine ⟨ν1, b1, ?_, KpL_tr (KpL_b (by omega) (by omega) h1 (by omega)) a2, a3, a4, a5, a6⟩
  show fX12_tellLaw_L129 F v1 v2 ν = _
  have a1' : fX12_term F (si ν 65 0 b (vp_nar .boolean 0)) = some ν1 := a1
  unfold fX12_tellLaw_L129
  rw [h3, if_pos hin, nn_cl (by omega), a1', bd1_s, p_mustRd a3, bd1_s, if_neg (deadR a3).2.1]
theorem dr_L12 {F B0 B1 C H k4 m n : Nat} {v1 v2 v3 : Int32} (hm : m < B1) (hB : B1 ≤ 260) : DgR B0 B1 C H k4 m (m + 1) (fun ν => fX12_tellLaw_L12 F (n + 1) v1 v2 v3 ν) := fun e ν b h h1 h2 h3 => by
  obtain ⟨ν1, b1, a1, a2, a3, a4, a5, a6⟩ := dr_129 (F := F) (B0 := B0) (C := C) (H := H) (k4 := k4) (v1 := v1) (v2 := v2) hm hB e ν b h h1 h2 h3
  refine ⟨ν1, b1, ?_, a2, a3, a4, a5, a6⟩
  show fX12_tellLaw_L12 F (n + 1) v1 v2 v3 ν = some ν1
  rw [fX12_tellLaw_L12, if_neg (deadR h).1]
  exact a1
def LWR (K : Nat → Tk) (N b C H k4 Z : Nat) (v2 : Int32) (r : Sum (Int32 × Int32) (Nat × List Br × List Int32)) (ν' : Mm) : Prop := match r with
  | Sum.inl e => DdR e ν'
  | Sum.inr r => LR K N r.1 ν' ∧ gi ν' 12 0 12 = 0 ∧ gi ν' 12 0 31 = nI (b + r.2.1.length + 1) ∧ 4 * (b + r.2.1.length + 1) ≤ r.1 + Z ∧ (∃ C', gi ν' 12 0 37 = nI C' ∧ C ≤ C' ∧ C' + (402 - r.1) ≤ H ∧ rBx ν' C C' r.2.1 r.2.2 b) ∧ gi ν' 63 0 k4 = v2 ∧ gi ν' 64 0 k4 = nI (b + r.2.1.length + 1)
theorem p_leR {F N S k t b B1 C H k4 Z : Nat} {K : Nat → Tk} {v2 : Int32} {ν : Mm} (hF : 1000 ≤ F) (hH : H ≤ 840) (hB : B1 ≤ 260) (hZ : 4 * B1 = Z + 520) (hk4 : k4 = 4 * S + k) (hk8 : k4 < 8) (g : Gk K N) (hl : LR K N t ν) (h12 : gi ν 12 0 12 = 0) (h19 : gi ν 12 0 19 = nI S) (h31 : gi ν 12 0 31 = nI b) (hb : 4 * b + 2 ≤ t + Z) (h37 : gi ν 12 0 37 = nI C) (hC : C + (402 - t) ≤ H) : ∃ ν', fX12_tellLaw_L129 F (nI k) v2 ν = some ν' ∧ KpL b B1 C H k4 ν ν' ∧ LWR K N b C H k4 Z v2 (lwe K t) ν' := by
  have tN : t ≤ 400 := Nat.le_trans hl.2.2.2 g.1.1
  have hin : inb (nI b) 260 = true := (nn_inb (by omega)).mpr (by omega)
  generalize hν1 : si (si ν 65 0 b (vp_nar .boolean 0)) 68 0 b (nI C) = ν1
  have f1 : fr FBr Q0 ν ν1 := by
    rw [← hν1]
    exact fr_tr (fr_si (Or.inl ⟨by omega, by omega⟩)) (fr_si (Or.inl ⟨by omega, by omega⟩))
  have kp1 : KpL b B1 C H k4 ν ν1 := by
    rw [← hν1]
    exact KpL_tr (KpL_b (by omega) (by omega) (Nat.le_refl _) (by omega)) (KpL_b (by omega) (by omega) (Nat.le_refl _) (by omega))
  have l1 := LR_Br f1 hl
  obtain ⟨ν2, a1, a2, a3⟩ := p_sumR (F := F) (C := C) (H := H) hF hH g hC l1 ((fr_n f1 (by unfold FBr; omega)).trans h12) ((fr_n f1 (by unfold FBr; omega)).trans h37)
  have e31 : gi ν2 12 0 31 = nI b := (fr_n a2.1 (by unfold FRe; omega)).trans (by rw [← hν1, gi_ne (by omega), gi_ne (by omega), h31])
  have kp2 : KpL b B1 C H k4 ν ν2 := KpL_tr kp1 (KpL_R a2)
  unfold fX12_tellLaw_L129 fX12_term fX12_term_L24
  rw [h31, if_pos hin, nn_cl (by omega), show gi (si ν 65 0 b (vp_nar .boolean 0)) 12 0 31 = nI b from (gi_ne (by omega)).trans h31, if_pos hin, nn_cl (by omega), show gi (si ν 65 0 b (vp_nar .boolean 0)) 12 0 37 = nI C from (gi_ne (by omega)).trans h37, hν1, if_pos l1.1, a1, bd1_s, e31, if_pos hin, nn_cl (by omega), show gi (si ν2 69 0 b (gi ν2 12 0 37)) 12 0 31 = nI b from (gi_ne (by omega)).trans e31, nn_s, bd1_s]
  generalize hν3 : si (si ν2 69 0 b (gi ν2 12 0 37)) 12 0 31 (nI (b + 1)) = ν3
  have f3 : fr FBr Q0 ν2 ν3 := by
    rw [← hν3]
    exact fr_tr (fr_si (Or.inl ⟨by omega, by omega⟩)) (fr_si (Or.inr ⟨rfl, rfl⟩))
  have kp3 : KpL b B1 C H k4 ν ν3 := by
    rw [← hν3]
    exact KpL_tr kp2 (KpL_tr (KpL_b (by omega) (by omega) (Nat.le_refl _) (by omega)) KpL_31)
  unfold lwe
  cases hx : exs K t with
  | inl e =>
    rw [hx] at a3
    have d3 := DdR_Br f3 a3
    rw [p_mustRd d3, bd1_s, if_neg (deadR d3).2.1]
    exact ⟨ν3, rfl, kp3, d3⟩
  | inr x =>
    rw [hx] at a3
    obtain ⟨l2, c12, c37, sx⟩ := a3
    obtain ⟨x1, x2, x3, x4⟩ := exs_ok (K := K) g.2.2 (t := t) (t' := x.1) (l := x.2) hx tN
    have l3 := LR_Br f3 l2
    obtain ⟨ν4, d1, d2, d3⟩ := p_mustR (F := F) (k := 24) g l3 (by omega)
    have kp4 : KpL b B1 C H k4 ν ν4 := KpL_tr kp3 (KpL_B d2)
    rw [show (4 : Int32) = km 24 from rfl, d1, bd1_s, sbd_r]
    cases hy : adv K x.1 24 with
    | inl e =>
      rw [hy] at d3
      rw [if_neg (deadR d3).2.1]
      exact ⟨ν4, rfl, kp4, d3⟩
    | inr t2 =>
      rw [hy] at d3
      obtain ⟨rfl, _, _⟩ := adv_r hy
      have e19 : gi ν4 12 0 19 = nI S := (fr_n kp4.1 (by unfold FLw FRe; omega)).trans h19
      have e31b : gi ν4 12 0 31 = nI (b + 1) := (fr_n d2 (by unfold FB; omega)).trans (by rw [← hν3, gi_eq])
      have ix : km 24 * nI S + nI k = nI k4 := by
        rw [show km 24 = nI 4 from rfl, nn_mul, nn_add, hk4]
      have hin8 : inb (nI k4) 8 = true := (nn_inb (by omega)).mpr hk8
      rw [d3.1, if_pos (by decide), e19, ix, if_pos hin8, nn_cl (by omega), gi_ne (by omega), e19, ix, if_pos hin8, nn_cl (by omega), gi_ne (by omega), e31b, sbd_r]
      have kp5 : KpL b B1 C H k4 ν (si (si ν4 63 0 k4 v2) 64 0 k4 (nI (b + 1))) := KpL_tr kp4 ⟨fr_tr (fr_si (Or.inr (Or.inl ⟨by omega, by omega⟩))) (fr_si (Or.inr (Or.inl ⟨by omega, by omega⟩))), fun c j a b => by rw [gi_ne (by omega), gi_ne (by omega)], fun c j a b d => by rw [gi_ne (by omega), gi_ne (by omega)], fun c j a b => by rw [gi_ne (by omega), gi_ne (by omega)]⟩
      have f5 : fr (fun c _ _ => c = 63 ∨ c = 64) Q0 ν4 (si (si ν4 63 0 k4 v2) 64 0 k4 (nI (b + 1))) := fr_tr (fr_si (Or.inl rfl)) (fr_si (Or.inr rfl))
      have n4 : ∀ c j, 65 ≤ c → c ≤ 71 → gi (si (si ν4 63 0 k4 v2) 64 0 k4 (nI (b + 1))) c 0 j = gi ν3 c 0 j := fun c j h1 h2 => (fr_n f5 (by omega)).trans (fr_n d2 (by unfold FB; omega))
      have n12 : ∀ j, j ≠ 11 → j ≠ 13 → j ≠ 14 → j ≠ 31 → gi (si (si ν4 63 0 k4 v2) 64 0 k4 (nI (b + 1))) 12 0 j = gi ν2 12 0 j := fun j h1 h2 h3 h4 => (fr_n f5 (by omega)).trans ((fr_n d2 (by unfold FB; omega)).trans (fr_n f3 (by unfold FBr; omega)))
      refine ⟨_, rfl, kp5, LR_fr f5 ⟨by omega, by omega⟩ (fun c j h1 h2 => by omega) d3, (n12 12 (by omega) (by omega) (by omega) (by omega)).trans c12, (fr_n f5 (by omega)).trans e31b, by show 4 * (b + 0 + 1) ≤ x.1 + 1 + Z; omega, ⟨C + x.2.length, (n12 37 (by omega) (by omega) (by omega) (by omega)).trans c37, by omega, by show C + x.2.length + (402 - (x.1 + 1)) ≤ H; omega, ?_⟩, by rw [gi_ne (by omega), gi_eq], gi_eq⟩
      refine ⟨?_, C, ?_, ?_, ⟨by show C + x.2.length ≤ 840; omega, fun k hk => ?_⟩, Nat.le_refl _, Nat.le_refl _⟩
      · rw [n4 65 b (by omega) (by omega), ← hν3, gi_ne (by omega), gi_ne (by omega), fr_n a2.1 (by unfold FRe; omega), ← hν1, gi_ne (by omega), gi_eq]
        exact nar1.2
      · rw [n4 68 b (by omega) (by omega), ← hν3, gi_ne (by omega), gi_ne (by omega), fr_n a2.1 (by unfold FRe; omega), ← hν1, gi_eq]
      · rw [n4 69 b (by omega) (by omega), ← hν3, gi_ne (by omega), gi_eq, c37]
      · rw [n4 70 _ (by omega) (by omega), n4 71 _ (by omega) (by omega), ← hν3, gi_ne (by omega), gi_ne (by omega), gi_ne (by omega), gi_ne (by omega)]
        exact sx k hk
