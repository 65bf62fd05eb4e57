theorem p_lwR {F N S k B1 H k4 Z : Nat} {K : Nat → Tk} {v2 : Int32} (hF : 1000 ≤ F) (hH : H ≤ 840) (hB : B1 ≤ 260) (hZ : 4 * B1 = Z + 520) (hk4 : k4 = 4 * S + k) (hk8 : k4 < 8) (g : Gk K N) : ∀ (n t i m b C : Nat) (ν : Mm), i + n = 4 → n + 1 < m → LR K N t ν → gi ν 12 0 12 = 0 → gi ν 12 0 19 = nI S → gi ν 12 0 31 = nI b → 4 * b + 2 ≤ t + Z → gi ν 12 0 37 = nI C → C + (402 - t) ≤ H → ∃ ν', fX12_tellLaw_L12 F m (nI k) v2 (nI i) ν = some ν' ∧ KpL b B1 C H k4 ν ν' ∧ LWR K N b C H k4 Z v2 (lwg K n t) ν'
  | n, t, i, 0, b, C, ν, _, h, _, _, _, _, _, _, _ => absurd h (Nat.not_lt_zero _)
  | 0, t, i, m + 1, b, C, ν, hi, hm, hl, h12, h19, h31, hb, h37, hC => by
    have i10 := p_isR (F := F) (k := 10) g hl (by omega)
    rw [show km 10 = 30 from rfl] at i10
    rw [fX12_tellLaw_L12, if_pos hl.1, i10, bd2_s]
    unfold lwg
    by_cases k10 : tkd K t = 10
    · rw [if_pos k10, if_neg n1_0, if_pos (by rw [show i = 4 by omega]; rfl), if_pos k10]
      obtain ⟨ν1, a1, a2, a3⟩ := p_failR (F := F) (f := 2) g hl (Or.inr rfl)
      unfold fX12_tellLaw_L38
      rw [a1, bd1_s, if_neg (deadR a3).2.1]
      exact ⟨ν1, rfl, KpL_B a2, a3⟩
    · rw [if_neg k10, if_pos rfl, if_neg k10]
      exact p_leR hF hH hB hZ hk4 hk8 g hl h12 h19 h31 hb h37 hC
  | n + 1, t, i, m + 1, b, C, ν, hi, hm, hl, h12, h19, h31, hb, h37, hC => by
    have tN : t ≤ 400 := Nat.le_trans hl.2.2.2 g.1.1
    have i10 := p_isR (F := F) (k := 10) g hl (by omega)
    rw [show km 10 = 30 from rfl] at i10
    rw [fX12_tellLaw_L12, if_pos hl.1, i10, bd2_s]
    unfold lwg
    by_cases k10 : tkd K t = 10
    · rw [if_pos k10, if_neg n1_0, if_neg (show ¬ nI i = 4 by rw [show (4 : Int32) = nI 4 from rfl, nn_inj (by omega) (by omega)]; omega), if_pos k10]
      obtain ⟨mm, rfl⟩ : ∃ x, m = x + 1 := ⟨m - 1, by omega⟩
      have hin : inb (nI b) 260 = true := (nn_inb (by omega)).mpr (by omega)
      have X5 : DgR b B1 C H k4 (b + 1) (b + 2) (fun μ48 => fX12_tellLaw_L12 F (mm + 1) (nI k) v2 (nI i + 1) μ48) := dr_L12 (by omega) hB
      have X4 : DgR b B1 C H k4 (b + 1) (b + 2) (fun μ45 => bd1 (fX12_must F 32 μ45) fun μ48 => fX12_tellLaw_L12 F (mm + 1) (nI k) v2 (nI i + 1) μ48) := dr_bd dr_must X5
      have X3b : DgR b B1 C H k4 b (b + 2) (fun μ42 => bd1 (fX12_term F μ42) fun μ45 => bd1 (fX12_must F 32 μ45) fun μ48 => fX12_tellLaw_L12 F (mm + 1) (nI k) v2 (nI i + 1) μ48) := dr_bd (dr_term (by omega) hB) X4
      have X3 : DgR b B1 C H k4 b (b + 2) (fun μ51 => fX12_tellLaw_L110 F (fun v1 v2 v3 μ => fX12_tellLaw_L12 F (mm + 1) v1 v2 v3 μ) (nI k) v2 (nI i + 1) μ51) := by
        have q : DgR b B1 C H k4 b (b + 2) (fun μ51 => bd1 (fX12_must F 31 μ51) fun μ42 => bd1 (fX12_term F μ42) fun μ45 => bd1 (fX12_must F 32 μ45) fun μ48 => fX12_tellLaw_L12 F (mm + 1) (nI k) v2 (nI i + 1) μ48) := dr_bd dr_must X3b
        exact q
      have X2 : DgR b B1 C H k4 b (b + 2) (fun μ36 => if inb (gi μ36 12 0 31) 260 = true then if (gi (si μ36 67 0 (gi μ36 12 0 31).toNatClampNeg (gi μ36 12 0 37)) 12 0 13) = 0 then (bd1 (fX12_expression F (si μ36 67 0 (gi μ36 12 0 31).toNatClampNeg (gi μ36 12 0 37))) fun μ51 => fX12_tellLaw_L110 F (fun v1 v2 v3 μ => fX12_tellLaw_L12 F (mm + 1) v1 v2 v3 μ) (nI k) v2 (nI i + 1) μ51) else (fX12_tellLaw_L110 F (fun v1 v2 v3 μ => fX12_tellLaw_L12 F (mm + 1) v1 v2 v3 μ) (nI k) v2 (nI i + 1) (si μ36 67 0 (gi μ36 12 0 31).toNatClampNeg (gi μ36 12 0 37))) else none) := fun e ν0 b0 h h1 h2 h3 => by
        obtain rfl : b0 = b := by omega
        have f1 : fr FBr Q0 ν0 (si ν0 67 0 b0 (gi ν0 12 0 37)) := fr_si (Or.inl ⟨by omega, by omega⟩)
        have d1 := DdR_Br f1 h
        obtain ⟨ν', b', q1, q2, q3⟩ := X3 e _ b0 d1 (Nat.le_refl _) (Nat.le_refl _) ((gi_ne (by omega)).trans h3)
        refine ⟨ν', b', ?_, KpL_tr (KpL_b (by omega) (by omega) (Nat.le_refl _) (by omega)) q2, q3⟩
        show (if inb (gi ν0 12 0 31) 260 = true then _ else none) = _
        rw [h3, if_pos hin, nn_cl (by omega), if_neg (deadR d1).1]
        exact q1
      have X1 := dr_bd (dr_must (F := F) (k := 13)) X2
      have X0 := dr_bd (dr_sum (F := F) hF) X1
      have dead : ∀ {f : Mm → Option Mm} {e : Int32 × Int32} {ν1 : Mm} {m1 m2 b1 : Nat}, DgR b B1 C H k4 m1 m2 f → KpL b B1 C H k4 ν ν1 → DdR e ν1 → b ≤ b1 → b1 ≤ m1 → gi ν1 12 0 31 = nI b1 → ∃ ν', f ν1 = some ν' ∧ KpL b B1 C H k4 ν ν' ∧ DdR e ν' := fun {f e ν1 m1 m2 b1} hD hf hd h1 h2 h3 => by
        obtain ⟨ν', b', q1, q2, q3, _⟩ := hD e ν1 b1 hd h1 h2 h3
        exact ⟨ν', q1, KpL_tr hf q2, q3⟩
      unfold fX12_tellLaw_L38
      have a0 : adv K t 10 = if t = 400 then Sum.inl (2, pl K t) else Sum.inr (t + 1) := by
        unfold adv
        rw [if_pos k10]
      obtain ⟨ν1, a1, a2, a3⟩ := p_goesR (F := F) g hl (by unfold tkd at k10; omega)
      rw [← a0] at a3
      have e31 : gi ν1 12 0 31 = nI b := (fr_n a2 (by unfold FB; omega)).trans h31
      have e37 : gi ν1 12 0 37 = nI C := (fr_n a2 (by unfold FB; omega)).trans h37
      have e12 : gi ν1 12 0 12 = 0 := (fr_n a2 (by unfold FB; omega)).trans h12
      rw [hl.1, if_pos (by decide), a1, bd1_s, e31, if_pos hin, nn_cl (by omega), show gi (si ν1 65 0 b (vp_nar .boolean 1)) 12 0 31 = nI b from (gi_ne (by omega)).trans e31, if_pos hin, nn_cl (by omega), show gi (si ν1 65 0 b (vp_nar .boolean 1)) 12 0 37 = nI C from (gi_ne (by omega)).trans e37]
      generalize hν2 : si (si ν1 65 0 b (vp_nar .boolean 1)) 66 0 b (nI C) = ν2
      have f2 : fr FBr Q0 ν1 ν2 := by
        rw [← hν2]
        exact fr_tr (fr_si (Or.inl ⟨by omega, by omega⟩)) (fr_si (Or.inl ⟨by omega, by omega⟩))
      have kp2 : KpL b B1 C H k4 ν ν2 := by
        rw [← hν2]
        exact KpL_tr (KpL_B a2) (KpL_tr (KpL_b (by omega) (by omega) (Nat.le_refl _) (by omega)) (KpL_b (by omega) (by omega) (Nat.le_refl _) (by omega)))
      have n2 : ∀ j, j ≠ 31 → gi ν2 12 0 j = gi ν1 12 0 j := fun j hj => fr_n f2 (by unfold FBr; omega)
      have e31b : gi ν2 12 0 31 = nI b := by rw [← hν2, gi_ne (by omega), gi_ne (by omega), e31]
      cases h1 : adv K t 10 with
      | inl e =>
        rw [h1] at a3
        exact dead X0 kp2 (DdR_Br f2 a3) (Nat.le_refl _) (Nat.le_refl _) e31b
      | inr t0 =>
      rw [h1] at a3
      obtain ⟨rfl, _, _⟩ := adv_r h1
      rw [sbd_r]
      -- a
      obtain ⟨ν3, b1, b2, b3⟩ := p_sumR (F := F) (C := C) (H := H) hF hH g (by omega) (LR_Br f2 a3) ((n2 12 (by omega)).trans e12) ((n2 37 (by omega)).trans e37)
      have kp3 : KpL b B1 C H k4 ν ν3 := KpL_tr kp2 (KpL_R b2)
      have e31c : gi ν3 12 0 31 = nI b := (fr_n b2.1 (by unfold FRe; omega)).trans e31b
      rw [b1, bd1_s]
      cases h2 : exs K (t + 1) with
      | inl e =>
        rw [h2] at b3
        exact dead X1 kp3 b3 (Nat.le_refl _) (Nat.le_refl _) e31c
      | inr a =>
      rw [h2] at b3
      obtain ⟨l3, c12, c37, sa⟩ := b3
      obtain ⟨x1, x2, x3, x4⟩ := exs_ok (K := K) g.2.2 (t := t + 1) (t' := a.1) (l := a.2) h2 (Nat.le_trans a3.2.2.2 g.1.1)
      rw [sbd_r]
      -- <
      obtain ⟨ν4, d1, d2, d3⟩ := p_mustR (F := F) (k := 30) g l3 (by omega)
      have kp4 : KpL b B1 C H k4 ν ν4 := KpL_tr kp3 (KpL_B d2)
      have e31d : gi ν4 12 0 31 = nI b := (fr_n d2 (by unfold FB; omega)).trans e31c
      rw [show (13 : Int32) = km 30 from rfl, d1, bd1_s]
      cases h3 : adv K a.1 30 with
      | inl e =>
        rw [h3] at d3
        exact dead X2 kp4 d3 (Nat.le_refl _) (Nat.le_refl _) e31d
      | inr t2 =>
      rw [h3] at d3
      obtain ⟨rfl, _, _⟩ := adv_r h3
      have e37d : gi ν4 12 0 37 = nI (C + a.2.length) := (fr_n d2 (by unfold FB; omega)).trans c37
      have e12d : gi ν4 12 0 12 = 0 := (fr_n d2 (by unfold FB; omega)).trans c12
      rw [sbd_r, e31d, if_pos hin, nn_cl (by omega), e37d]
      generalize hν5 : si ν4 67 0 b (nI (C + a.2.length)) = ν5
      have f5 : fr FBr Q0 ν4 ν5 := by
        rw [← hν5]
        exact fr_si (Or.inl ⟨by omega, by omega⟩)
      have kp5 : KpL b B1 C H k4 ν ν5 := by
        rw [← hν5]
        exact KpL_tr kp4 (KpL_b (by omega) (by omega) (Nat.le_refl _) (by omega))
      have l5 := LR_Br f5 d3
      have n5 : ∀ j, gi ν5 12 0 j = gi ν4 12 0 j := fun j => by rw [← hν5, gi_ne (by omega)]
      rw [if_pos l5.1]
      -- b
      obtain ⟨ν6, m1, m2, m3⟩ := p_sumR (F := F) (C := C + a.2.length) (H := H) hF hH g (by omega) l5 ((n5 12).trans e12d) ((n5 37).trans e37d)
      have kp6 : KpL b B1 C H k4 ν ν6 := KpL_tr kp5 (KpL_w (Nat.le_refl _) (Nat.le_add_right _ _) (KpL_R m2))
      have e31e : gi ν6 12 0 31 = nI b := (fr_n m2.1 (by unfold FRe; omega)).trans ((n5 31).trans e31d)
      rw [m1, bd1_s]
      cases h4 : exs K (a.1 + 1) with
      | inl e =>
        rw [h4] at m3
        exact dead X3 kp6 m3 (Nat.le_refl _) (Nat.le_refl _) e31e
      | inr bb =>
      rw [h4] at m3
      obtain ⟨l6, q12, q37, sb⟩ := m3
      obtain ⟨y1, y2, y3, y4⟩ := exs_ok (K := K) g.2.2 (t := a.1 + 1) (t' := bb.1) (l := bb.2) h4 (Nat.le_trans d3.2.2.2 g.1.1)
      rw [sbd_r]
      unfold fX12_tellLaw_L110
      -- then
      obtain ⟨ν7, r1, r2, r3⟩ := p_mustR (F := F) (k := 11) g l6 (by omega)
      have kp7 : KpL b B1 C H k4 ν ν7 := KpL_tr kp6 (KpL_B r2)
      have e31f : gi ν7 12 0 31 = nI b := (fr_n r2 (by unfold FB; omega)).trans e31e
      rw [show (31 : Int32) = km 11 from rfl, r1, bd1_s]
      cases h5 : adv K bb.1 11 with
      | inl e =>
        rw [h5] at r3
        exact dead X3b kp7 r3 (Nat.le_refl _) (Nat.le_refl _) e31f
      | inr t4 =>
      rw [h5] at r3
      obtain ⟨rfl, _, _⟩ := adv_r h5
      have e37f : gi ν7 12 0 37 = nI (C + a.2.length + bb.2.length) := (fr_n r2 (by unfold FB; omega)).trans q37
      have e12f : gi ν7 12 0 12 = 0 := (fr_n r2 (by unfold FB; omega)).trans q12
      rw [sbd_r]
      unfold fX12_term fX12_term_L24
      rw [e31f, if_pos hin, nn_cl (by omega), e37f]
      generalize hν8 : si ν7 68 0 b (nI (C + a.2.length + bb.2.length)) = ν8
      have f8 : fr FBr Q0 ν7 ν8 := by
        rw [← hν8]
        exact fr_si (Or.inl ⟨by omega, by omega⟩)
      have kp8 : KpL b B1 C H k4 ν ν8 := by
        rw [← hν8]
        exact KpL_tr kp7 (KpL_b (by omega) (by omega) (Nat.le_refl _) (by omega))
      have l8 := LR_Br f8 r3
      have n8 : ∀ j, gi ν8 12 0 j = gi ν7 12 0 j := fun j => by rw [← hν8, gi_ne (by omega)]
      rw [if_pos l8.1]
      -- c
      obtain ⟨ν9, s1, s2, s3⟩ := p_sumR (F := F) (C := C + a.2.length + bb.2.length) (H := H) hF hH g (by omega) l8 ((n8 12).trans e12f) ((n8 37).trans e37f)
      have kp9 : KpL b B1 C H k4 ν ν9 := KpL_tr kp8 (KpL_w (Nat.le_refl _) (by omega) (KpL_R s2))
      have e31g : gi ν9 12 0 31 = nI b := (fr_n s2.1 (by unfold FRe; omega)).trans ((n8 31).trans e31f)
      rw [s1, bd1_s, e31g, if_pos hin, nn_cl (by omega), show gi (si ν9 69 0 b (gi ν9 12 0 37)) 12 0 31 = nI b from (gi_ne (by omega)).trans e31g, nn_s, bd1_s]
      generalize hν10 : si (si ν9 69 0 b (gi ν9 12 0 37)) 12 0 31 (nI (b + 1)) = ν10
      have f10 : fr FBr Q0 ν9 ν10 := by
        rw [← hν10]
        exact fr_tr (fr_si (Or.inl ⟨by omega, by omega⟩)) (fr_si (Or.inr ⟨rfl, rfl⟩))
      have kp10 : KpL b B1 C H k4 ν ν10 := by
        rw [← hν10]
        exact KpL_tr kp9 (KpL_tr (KpL_b (by omega) (by omega) (Nat.le_refl _) (by omega)) KpL_31)
      have e31h : gi ν10 12 0 31 = nI (b + 1) := by rw [← hν10, gi_eq]
      have n10 : ∀ j, j ≠ 31 → gi ν10 12 0 j = gi ν9 12 0 j := fun j hj => by rw [← hν10, gi_ne (by omega), gi_ne (by omega)]
      cases h6 : exs K (bb.1 + 1) with
      | inl e =>
        rw [h6] at s3
        exact dead X4 kp10 (DdR_Br f10 s3) (by omega) (Nat.le_refl _) e31h
      | inr c =>
      rw [h6] at s3
      obtain ⟨l9, u12, u37, sc⟩ := s3
      obtain ⟨z1, z2, z3, z4⟩ := exs_ok (K := K) g.2.2 (t := bb.1 + 1) (t' := c.1) (l := c.2) h6 (Nat.le_trans r3.2.2.2 g.1.1)
      rw [sbd_r]
      -- else
      obtain ⟨ν11, w1, w2, w3⟩ := p_mustR (F := F) (k := 12) g (LR_Br f10 l9) (by omega)
      have kp11 : KpL b B1 C H k4 ν ν11 := KpL_tr kp10 (KpL_B w2)
      have e31i : gi ν11 12 0 31 = nI (b + 1) := (fr_n w2 (by unfold FB; omega)).trans e31h
      rw [show (32 : Int32) = km 12 from rfl, w1, bd1_s]
      cases h7 : adv K c.1 12 with
      | inl e =>
        rw [h7] at w3
        exact dead X5 kp11 w3 (by omega) (Nat.le_refl _) e31i
      | inr t6 =>
      rw [h7] at w3
      obtain ⟨rfl, _, _⟩ := adv_r h7
      have e37i : gi ν11 12 0 37 = nI (C + a.2.length + bb.2.length + c.2.length) := (fr_n w2 (by unfold FB; omega)).trans ((n10 37 (by omega)).trans u37)
      have e12i : gi ν11 12 0 12 = 0 := (fr_n w2 (by unfold FB; omega)).trans ((n10 12 (by omega)).trans u12)
      rw [sbd_r]
      obtain ⟨ν', o1, o2, o3⟩ := p_lwR hF hH hB hZ hk4 hk8 g n (c.1 + 1) (i + 1) (mm + 1) (b + 1) (C + a.2.length + bb.2.length + c.2.length) ν11 (by omega) (by omega) w3 e12i ((fr_n kp11.1 (by unfold FLw FRe; omega)).trans h19) e31i (by omega) e37i (by omega)
      show ∃ ν', fX12_tellLaw_L12 F (mm + 1) (nI k) v2 (nI i + 1) ν11 = some ν' ∧ _
      rw [nn_s]
      refine ⟨ν', o1, KpL_tr kp11 (KpL_w (by omega) (by omega) o2), ?_⟩
      cases h9 : lwg K n (c.1 + 1) with
      | inl e =>
        rw [h9] at o3
        exact o3
      | inr r =>
      rw [h9] at o3
      obtain ⟨v1, v2', v3, v4, ⟨C', v5, v6, v7, v8⟩, v9, v10⟩ := o3
      have el : b + 1 + r.2.1.length + 1 = b + (r.2.1.length + 1) + 1 := by omega
      have kb : ∀ c0, 65 ≤ c0 → c0 ≤ 69 → gi ν' c0 0 b = gi ν10 c0 0 b := fun c0 g1 g2 => (o2.2.2.1 c0 b g1 g2 (Or.inl (Nat.lt_succ_self _))).trans (fr_n w2 (by unfold FB; omega))
      have kc : ∀ c0 j, c0 = 70 ∨ c0 = 71 → j < C + a.2.length + bb.2.length + c.2.length → gi ν' c0 0 j = gi ν9 c0 0 j := fun c0 j g1 g2 => (o2.2.1 c0 j g1 (Or.inl g2)).trans ((fr_n w2 (by unfold FB; omega)).trans (fr_n f10 (by unfold FBr; omega)))
      have kc6 : ∀ c0 j, c0 = 70 ∨ c0 = 71 → j < C + a.2.length + bb.2.length → gi ν9 c0 0 j = gi ν6 c0 0 j := fun c0 j g1 g2 => (s2.2 c0 j g1 (Or.inl g2)).trans ((fr_n f8 (by unfold FBr; omega)).trans (fr_n r2 (by unfold FB; omega)))
      have kc3 : ∀ c0 j, c0 = 70 ∨ c0 = 71 → j < C + a.2.length → gi ν6 c0 0 j = gi ν3 c0 0 j := fun c0 j g1 g2 => (m2.2 c0 j g1 (Or.inl g2)).trans ((fr_n f5 (by unfold FBr; omega)).trans (fr_n d2 (by unfold FB; omega)))
      refine ⟨v1, v2', by show _ = nI (b + (r.2.1.length + 1) + 1); rw [← el]; exact v3, by show 4 * (b + (r.2.1.length + 1) + 1) ≤ r.1 + Z; omega, ⟨C', v5, by omega, v7, ?_⟩, v9, by show _ = nI (b + (r.2.1.length + 1) + 1); rw [← el]; exact v10⟩
      refine ⟨?_, ⟨C, ?_, ?_, ?_, ?_, ⟨by simp only [List.length_append]; omega, fun z hz => ?_⟩, Nat.le_refl _, by omega⟩, rBx_kp (by omega) (Nat.le_refl _) _ _ _ (fun _ _ _ _ _ _ => rfl) (fun _ _ _ _ _ => rfl) v8⟩
      · rw [kb 65 (by omega) (by omega), ← hν10, gi_ne (by omega), gi_ne (by omega), fr_n s2.1 (by unfold FRe; omega), ← hν8, gi_ne (by omega), fr_n r2 (by unfold FB; omega), fr_n m2.1 (by unfold FRe; omega), ← hν5, gi_ne (by omega), fr_n d2 (by unfold FB; omega), fr_n b2.1 (by unfold FRe; omega), ← hν2, gi_ne (by omega), gi_eq]
        exact nar1.1
      · rw [kb 66 (by omega) (by omega), ← hν10, gi_ne (by omega), gi_ne (by omega), fr_n s2.1 (by unfold FRe; omega), ← hν8, gi_ne (by omega), fr_n r2 (by unfold FB; omega), fr_n m2.1 (by unfold FRe; omega), ← hν5, gi_ne (by omega), fr_n d2 (by unfold FB; omega), fr_n b2.1 (by unfold FRe; omega), ← hν2, gi_eq]
      · rw [kb 67 (by omega) (by omega), ← hν10, gi_ne (by omega), gi_ne (by omega), fr_n s2.1 (by unfold FRe; omega), ← hν8, gi_ne (by omega), fr_n r2 (by unfold FB; omega), fr_n m2.1 (by unfold FRe; omega), ← hν5, gi_eq]
      · rw [kb 68 (by omega) (by omega), ← hν10, gi_ne (by omega), gi_ne (by omega), fr_n s2.1 (by unfold FRe; omega), ← hν8, gi_eq]
      · rw [kb 69 (by omega) (by omega), ← hν10, gi_ne (by omega), gi_eq, u37]
      · show gi ν' 70 0 (C + z) = (rc (a.2 ++ (bb.2 ++ c.2))[z]).1 ∧ gi ν' 71 0 (C + z) = (rc (a.2 ++ (bb.2 ++ c.2))[z]).2
        have hz' : z < a.2.length + (bb.2.length + c.2.length) := by
          have := hz
          simp only [List.length_append] at this
          exact this
        rw [kc 70 _ (Or.inl rfl) (by omega), kc 71 _ (Or.inr rfl) (by omega)]
        by_cases za : z < a.2.length
        · rw [List.getElem_append_left za, kc6 70 _ (Or.inl rfl) (by omega), kc6 71 _ (Or.inr rfl) (by omega), kc3 70 _ (Or.inl rfl) (by omega), kc3 71 _ (Or.inr rfl) (by omega)]
          exact sa z za
        · rw [List.getElem_append_right (by omega)]
          by_cases zb : z - a.2.length < bb.2.length
          · rw [List.getElem_append_left zb, kc6 70 _ (Or.inl rfl) (by omega), kc6 71 _ (Or.inr rfl) (by omega)]
            have q := sb (z - a.2.length) zb
            rw [show C + a.2.length + (z - a.2.length) = C + z by omega] at q
            exact q
          · rw [List.getElem_append_right (by omega)]
            have q := sc (z - a.2.length - bb.2.length) (by omega)
            rw [show C + a.2.length + bb.2.length + (z - a.2.length - bb.2.length) = C + z by omega] at q
            exact q
    · rw [if_neg k10, if_pos rfl, if_neg k10]
      exact p_leR hF hH hB hZ hk4 hk8 g hl h12 h19 h31 hb h37 hC
