/-- nothing more is read -/
theorem p_unitRd {F : Nat} {e : Int32 × Int32} {ν : Mm} (h : DdR e ν) : fX12_unit F ν = some ν := by
  unfold fX12_unit fX12_unit_L88
  rw [p_isRd h, bd2_s, if_pos rfl, if_neg (deadR h).1, p_failRd h, bd1_s]
theorem p_dd23 {F n : Nat} {e : Int32 × Int32} {K : Int32 → Int32 → Mm → Option Mm} {v1 : Int32} {ν : Mm} (h : DdR e ν) : fX12_expression_L23 F K (n + 1) v1 ν = some ν := by
  rw [fX12_expression_L23, p_isRd h, bd2_s, if_pos rfl, p_unitRd h, bd1_s, if_neg (deadR h).2.1]
def EXR (K : Nat → Tk) (N C : Nat) (r : Sum (Int32 × Int32) (Nat × List Int32)) (ν : Mm) : Prop := match r with
  | Sum.inl e => DdR e ν
  | Sum.inr x => LR K N x.1 ν ∧ gi ν 12 0 12 = 0 ∧ gi ν 12 0 37 = nI (C + x.2.length) ∧ rsg ν C x.2
/-- the end of an E -/
theorem p_204 {F C H o : Nat} {W : List Nat} {out : List Int32} {ν : Mm} (hF : 1000 ≤ F) (hH : H ≤ 840) (hw : ∀ w ∈ W, 26 ≤ w ∧ w ≤ 31 ∧ w ≠ 30) (h64 : W.length ≤ 64) (hC : C + out.length + W.length ≤ H) (h : XR C W o out ν) : ∃ ν', fX12_expression_L204 F ν = some ν' ∧ fr FO Q0 ν ν' ∧ (∀ c j, c = 70 ∨ c = 71 → (j < C ∨ H ≤ j) → gi ν' c 0 j = gi ν c 0 j) ∧ XR C (relS false W out).1 o (relS false W out).2 ν' := by
  obtain ⟨ν', r1, r2, r3, r4⟩ := p_coX (F := F) (v1 := 0) (s := false) hF hH (Or.inr ⟨rfl, rfl⟩) hw h64 hC h
  unfold fX12_expression_L204
  rw [r1, bd1_s]
  exact ⟨ν', rfl, r2, r3, r4⟩
theorem p_145d {F C H o : Nat} {e : Int32 × Int32} {K : Int32 → Int32 → Mm → Option Mm} {W : List Nat} {out : List Int32} {ν : Mm} (hF : 1000 ≤ F) (hH : H ≤ 840) (hw : ∀ w ∈ W, 26 ≤ w ∧ w ≤ 31 ∧ w ≠ 30) (h64 : W.length ≤ 64) (hC : C + out.length + W.length ≤ H) (h : XR C W o out ν) (hd : DdR e ν) : ∃ ν', fX12_expression_L145 F K 0 ν = some ν' ∧ KpR C H ν ν' ∧ DdR e ν' := by
  obtain ⟨ν', r1, r2, r3, r4⟩ := p_204 (F := F) hF hH hw h64 hC h
  unfold fX12_expression_L145 fX12_expression_L186
  rw [p_isRd hd, bd2_s, if_pos rfl, p_isRd hd, bd2_s, if_pos rfl, p_isRd hd, bd2_s, if_pos rfl, p_isRd hd, bd2_s, if_pos rfl, if_pos rfl, p_failRd hd, bd1_s, r1]
  refine ⟨ν', ?_, KpR_FO r2 r3, DdR_FO r2 hd⟩
  split <;> rfl
theorem p_145 {F N t : Nat} {K' : Int32 → Int32 → Mm → Option Mm} {K : Nat → Tk} {v1 : Int32} {ν : Mm} (g : Gk K N) (h : LR K N t ν) : fX12_expression_L145 F K' v1 ν = if 26 ≤ tkd K t ∧ tkd K t ≤ 29 then fX12_expression_L234 F K' v1 1 (if 28 ≤ tkd K t then 1 else 0) ν else (if (gi ν 12 0 12) ≤ v1 then (fX12_expression_L204 F ν) else (bd1 (fX12_fail F 1 ν) fun μ48 => fX12_expression_L204 F μ48)) := by
  have i8 := p_isR (F := F) (k := 26) g h (by omega)
  have i9 := p_isR (F := F) (k := 27) g h (by omega)
  have i10 := p_isR (F := F) (k := 28) g h (by omega)
  have i15 := p_isR (F := F) (k := 29) g h (by omega)
  rw [show km 26 = 8 from rfl] at i8
  rw [show km 27 = 9 from rfl] at i9
  rw [show km 28 = 10 from rfl] at i10
  rw [show km 29 = 15 from rfl] at i15
  unfold fX12_expression_L145 fX12_expression_L181 fX12_expression_L186 fX12_expression_L229
  rw [i8, bd2_s]
  by_cases k6 : tkd K t = 26
  · rw [if_pos k6, if_neg n1_0, if_neg n1_0, i10, bd2_s, if_neg (c := tkd K t = 28) (by omega), if_pos rfl, i15, bd2_s, if_neg (c := tkd K t = 29) (by omega), if_pos rfl, if_pos (by omega), if_neg (c := 28 ≤ tkd K t) (by omega)]
  rw [if_neg k6, if_pos rfl, i9, bd2_s]
  by_cases k7 : tkd K t = 27
  · rw [if_pos k7, if_neg n1_0, if_neg n1_0, i10, bd2_s, if_neg (c := tkd K t = 28) (by omega), if_pos rfl, i15, bd2_s, if_neg (c := tkd K t = 29) (by omega), if_pos rfl, if_pos (by omega), if_neg (c := 28 ≤ tkd K t) (by omega)]
  rw [if_neg k7, if_pos rfl, i10, bd2_s]
  by_cases k8 : tkd K t = 28
  · rw [if_pos k8, if_neg n1_0, if_neg n1_0, i10, bd2_s, if_pos k8, if_neg n1_0, if_pos (by omega), if_pos (c := 28 ≤ tkd K t) (by omega)]
  rw [if_neg k8, if_pos rfl, i15, bd2_s]
  by_cases k9 : tkd K t = 29
  · rw [if_pos k9, if_neg n1_0, if_neg n1_0, i10, bd2_s, if_neg k8, if_pos rfl, i15, bd2_s, if_pos k9, if_neg n1_0, if_pos (by omega), if_pos (c := 28 ≤ tkd K t) (by omega)]
  rw [if_neg k9, if_pos rfl, if_pos rfl, if_neg (c := 26 ≤ tkd K t ∧ tkd K t ≤ 29) (by omega)]
def gX (F n2 : Nat) (K : Int32 → Int32 → Mm → Option Mm) (ν : Mm) : Bool → Option Mm
  | true => fX12_expression_L23 F K n2 0 ν
  | false => fX12_expression_L96 F K n2 0 ν
theorem p_exR {F N C H t0 : Nat} {K : Nat → Tk} (hF : 1000 ≤ F) (hH : H ≤ 840) (g : Gk K N) (hC : C + (402 - t0) ≤ H) : ∀ (n t : Nat) (due : Bool) (W : List Nat) (o : Nat) (out : List Int32) (m n2 : Nat) (ν : Mm), Xi t0 t due W o out → 400 - t < n → LR K N t ν → XR C W o out ν → 402 - t < m → 402 - t < n2 → ∃ ν', gX F n2 (fun v1 v2 μ => fX12_expression_L12 F m v1 v2 μ) ν due = some ν' ∧ KpR C H ν ν' ∧ EXR K N C (exg K n t due W o out) ν'
  | 0, _, _, _, _, _, _, _, _, _, h, _, _, _, _ => absurd h (Nat.not_lt_zero _)
  | n + 1, t, true, W, o, out, m, n2, ν, hx, hn, hl, hc, hm, hn2 => by
    have tN := hl.2.2.2
    have hN := g.1.1
    obtain ⟨n2, rfl⟩ : ∃ x, n2 = x + 2 := ⟨n2 - 2, by omega⟩
    have k34 := g.2.1 t
    have wk := Wf_k o W hx.1
    have wb := Wf_b o W hx.1
    have o6 := hx.2.1
    have len := hx.2.2.2.2
    have h37 : gi ν 12 0 37 = nI (C + out.length) := hc.2.2.2.1
    have i6 := p_isR (F := F) (k := 31) g hl (by omega)
    rw [show km 31 = 6 from rfl] at i6
    show ∃ ν', fX12_expression_L23 F (fun v1 v2 μ => fX12_expression_L12 F m v1 v2 μ) (n2 + 1 + 1) 0 ν = some ν' ∧ _
    rw [fX12_expression_L23, i6, bd2_s]
    unfold exg
    by_cases k31 : tkd K t = 31
    · rw [if_pos k31, if_neg n1_0, if_pos k31, hc.2.2.1]
      unfold fX12_expression_L46
      by_cases o66 : o = 6
      · rw [if_pos (by rw [o66]; rfl), if_pos o66]
        obtain ⟨ν1, a1, a2, a3⟩ := p_failR (F := F) (f := 2) g hl (Or.inr rfl)
        have f2 : fr FV Q0 ν1 (si ν1 12 0 12 (gi ν1 12 0 12 + 1)) := fr_si (Or.inl ⟨rfl, Or.inl rfl⟩)
        have d2 := DdR_FV f2 a3
        obtain ⟨ν3, b1, b2, b3⟩ := p_goesRd (F := F) d2
        have e41 : gi ν3 12 0 41 = nI W.length := (fr_n b2 (by unfold FB; omega)).trans ((gi_ne (by omega)).trans ((fr_n a2 (by unfold FB; omega)).trans hc.1))
        have f4 : fr FV Q0 ν3 (si (si ν3 72 0 W.length 6) 12 0 41 (nI (W.length + 1))) := fr_tr (fr_si (Or.inr rfl)) (fr_si (Or.inl ⟨rfl, Or.inr rfl⟩))
        rw [a1, bd1_s, b1, bd1_s, e41, if_pos ((nn_inb (by omega)).mpr (by omega)), nn_cl (by omega), gi_ne (by omega), e41, nn_s]
        show ∃ ν', fX12_expression_L23 F (fun v1 v2 μ => fX12_expression_L12 F m v1 v2 μ) (n2 + 1) 0 (si (si ν3 72 0 W.length 6) 12 0 41 (nI (W.length + 1))) = some ν' ∧ _
        rw [p_dd23 (DdR_FV f4 b3)]
        exact ⟨_, rfl, KpR_tr (KpR_tr (KpR_tr (KpR_FB a2) (KpR_FV f2)) (KpR_FB b2)) (KpR_FV f4), DdR_FV f4 b3⟩
      · rw [if_neg (show ¬ nI o = 6 by rw [show (6 : Int32) = nI 6 from rfl, nn_inj (by omega) (by omega)]; exact o66), if_neg o66, hc.2.2.1, nn_s]
        have f1 : fr FV Q0 ν (si ν 12 0 12 (nI (o + 1))) := fr_si (Or.inl ⟨rfl, Or.inl rfl⟩)
        obtain ⟨ν2, a1, a2, a3⟩ := p_goesR (F := F) g (LR_FV f1 hl) (by unfold tkd at k31; omega)
        have x2 : XR C W (o + 1) out ν2 := XR_FB a2 ⟨(gi_ne (by omega)).trans hc.1, fun k hk => (gi_ne (by omega)).trans (hc.2.1 k hk), gi_eq, (gi_ne (by omega)).trans hc.2.2.2.1, fun k hk => ⟨(gi_ne (by omega)).trans (hc.2.2.2.2 k hk).1, (gi_ne (by omega)).trans (hc.2.2.2.2 k hk).2⟩⟩
        obtain ⟨x3, f3⟩ := XR_push (k := 31) x2
        rw [a1, bd1_s, x2.1, if_pos ((nn_inb (by omega)).mpr (by omega)), nn_cl (by omega), gi_ne (by omega), x2.1, nn_s]
        have kp : KpR C H ν (si (si ν2 72 0 W.length (km 31)) 12 0 41 (nI (W.length + 1))) := KpR_tr (KpR_tr (KpR_FV f1) (KpR_FB a2)) (KpR_FV f3)
        by_cases z : t = 400
        · rw [if_pos z] at a3 ⊢
          have d3 := DdR_FV f3 a3
          show ∃ ν', fX12_expression_L23 F (fun v1 v2 μ => fX12_expression_L12 F m v1 v2 μ) (n2 + 1) 0 (si (si ν2 72 0 W.length (km 31)) 12 0 41 (nI (W.length + 1))) = some ν' ∧ _
          rw [p_dd23 d3]
          exact ⟨_, rfl, kp, d3⟩
        · rw [if_neg z] at a3 ⊢
          obtain ⟨ν', e1, e2, e3⟩ := p_exR hF hH g hC n (t + 1) true (31 :: W) (o + 1) out m (n2 + 1) _ (Xi_open hx o66) (by omega) (LR_FV f3 a3) x3 (by omega) (by omega)
          exact ⟨ν', e1, KpR_tr kp e2, e3⟩
    rw [if_neg k31, if_pos rfl, if_neg k31]
    -- a code comes out, one TOKEN is gone by
    have unit : ∀ (c a b : Int32), rc c = (a, b) → -10 < c.toInt → (K t).1 ≤ 32 → ∃ ν', (bd1 (bd1 (fX12_emit F a b ν) fun μ17 => bd1 (fX12_goesOn F μ17) fun μ20 => some μ20) fun μ9 => if gi μ9 12 0 13 ≤ 0 then fX12_expression_L96 F (fun v1 v2 μ => fX12_expression_L12 F m v1 v2 μ) F 0 μ9 else some μ9) = some ν' ∧ KpR C H ν ν' ∧ EXR K N C (if t = 400 then Sum.inl (2, pl K t) else exg K n (t + 1) false W o (out ++ [c])) ν' := fun c a b hab hcc hk => by
      rw [p_emitR h37 (by omega), bd1_s]
      have f1 : fr FO Q0 ν (si (si (si ν 70 0 (C + out.length) a) 71 0 (C + out.length) b) 12 0 37 (nI (C + out.length + 1))) := fr_tr (fr_tr (fr_si (Or.inr (Or.inl rfl))) (fr_si (Or.inr (Or.inr rfl)))) (fr_si (Or.inl ⟨rfl, Or.inl rfl⟩))
      have x1 : XR C W o (out ++ [c]) (si (si (si ν 70 0 (C + out.length) a) 71 0 (C + out.length) b) 12 0 37 (nI (C + out.length + 1))) := ⟨(gi_ne (by omega)).trans ((gi_ne (by omega)).trans ((gi_ne (by omega)).trans hc.1)), fun k hk => (gi_ne (by omega)).trans ((gi_ne (by omega)).trans ((gi_ne (by omega)).trans (hc.2.1 k hk))), (gi_ne (by omega)).trans ((gi_ne (by omega)).trans ((gi_ne (by omega)).trans hc.2.2.1)), by rw [gi_eq, List.length_append, List.length_singleton, Nat.add_assoc], rsg_1 hc.2.2.2.2 hab⟩
      have kp1 : KpR C H ν (si (si (si ν 70 0 (C + out.length) a) 71 0 (C + out.length) b) 12 0 37 (nI (C + out.length + 1))) := KpR_FO f1 (fun c j hc hj => (gi_ne (by omega)).trans ((gi_ne (by omega)).trans (gi_ne (by omega))))
      obtain ⟨ν2, a1, a2, a3⟩ := p_goesR (F := F) g (LR_FO f1 hl) hk
      rw [a1, bd1_s, bd1_s]
      by_cases z : t = 400
      · rw [if_pos z] at a3 ⊢
        rw [if_neg (deadR a3).2.1]
        exact ⟨ν2, rfl, KpR_tr kp1 (KpR_FB a2), a3⟩
      · rw [if_neg z] at a3 ⊢
        rw [a3.1, if_pos (by decide)]
        obtain ⟨ν', e1, e2, e3⟩ := p_exR hF hH g hC n (t + 1) false W o (out ++ [c]) m F _ (Xi_unit hx hcc) (by omega) a3 (XR_FB a2 x1) (by omega) (by omega)
        exact ⟨ν', e1, KpR_tr (KpR_tr kp1 (KpR_FB a2)) e2, e3⟩
    have i2 := p_isR (F := F) (k := 23) g hl (by omega)
    rw [show km 23 = 2 from rfl] at i2
    have hin : inb (nI t) 403 = true := (nn_inb (by omega)).mpr (by omega)
    unfold fX12_unit fX12_unit_L88
    rw [i2, bd2_s]
    by_cases kv : 13 ≤ tkd K t ∧ tkd K t ≤ 21
    · have e33 := km_33 (K t).1 (by omega)
      have ev := km_v (K t).1 (by omega) kv.1 kv.2
      have vc := var_c kv.1 kv.2
      rw [if_neg (c := tkd K t = 23) (by omega), if_pos rfl, if_pos hl.1, hl.2.2.1, if_pos hin, nn_cl (by omega), (hl.2.1 t tN).1, if_neg (fun q => e33.1.mp q kv), if_neg e33.2, ev, if_pos kv]
      exact unit _ 1 (nI (tkd K t - 13)) vc.2.2.2 vc.2.1 (by unfold tkd at kv; omega)
    rw [if_neg kv]
    by_cases k23 : tkd K t = 23
    · obtain ⟨v, hv, ev⟩ := g.2.2 t k23
      rw [if_pos k23, if_neg n1_0, hl.2.2.1, if_pos hin, nn_cl (by omega), (hl.2.1 t tN).2.2.1 k23, if_pos k23]
      refine unit _ 0 ((K t).2.2.1) ?_ (by rw [ev, nI_toInt (by omega)]; omega) (by unfold tkd at k23; omega)
      rw [ev]
      unfold rc
      rw [if_pos (by rw [nI_toInt (by omega)]; omega), if_pos (by rw [nI_toInt (by omega)]; omega)]
    · have e33 := km_33 (K t).1 (by omega)
      rw [if_neg k23, if_pos rfl, if_pos hl.1, hl.2.2.1, if_pos hin, nn_cl (by omega), (hl.2.1 t tN).1, if_pos (e33.1.mpr kv), if_neg k23]
      obtain ⟨ν1, a1, a2, a3⟩ := p_failR (F := F) (f := 1) g hl (Or.inl rfl)
      rw [a1, bd1_s, bd1_s, if_neg (deadR a3).2.1]
      exact ⟨ν1, rfl, KpR_FB a2, a3⟩
  | n + 1, t, false, W, o, out, m, n2, ν, hx, hn, hl, hc, hm, hn2 => by
    have tN := hl.2.2.2
    have hN := g.1.1
    obtain ⟨n2, rfl⟩ : ∃ x, n2 = x + 2 := ⟨n2 - 2, by omega⟩
    obtain ⟨m, rfl⟩ : ∃ x, m = x + 1 := ⟨m - 1, by omega⟩
    have k34 := g.2.1 t
    have wk := Wf_k o W hx.1
    have wb := Wf_b o W hx.1
    have o6 := hx.2.1
    have len := hx.2.2.2.2
    have i7 := p_isR (F := F) (k := 32) g hl (by omega)
    rw [show km 32 = 7 from rfl] at i7
    have rl := relS_l W out (s := false)
    have rm := relS_m W out (s := false)
    have eo : (gi ν 12 0 12 ≤ 0) ↔ o = 0 := by
      rw [hc.2.2.1, show (0 : Int32) = nI 0 from rfl, nn_le (by omega) (by omega)]
      omega
    show ∃ ν', fX12_expression_L96 F (fun v1 v2 μ => fX12_expression_L12 F (m + 1) v1 v2 μ) (n2 + 1 + 1) 0 ν = some ν' ∧ _
    rw [fX12_expression_L96, i7, bd2_s]
    unfold exg
    by_cases ks : 26 ≤ tkd K t ∧ tkd K t ≤ 29
    · rw [if_neg (c := tkd K t = 32) (by omega), if_pos rfl, p_145 g hl, if_pos ks, if_pos ks]
      have rl2 := relS_l W out (s := decide (28 ≤ tkd K t))
      have rm2 := relS_m W out (s := decide (28 ≤ tkd K t))
      obtain ⟨ν1, a1, a2, a3, a4⟩ := p_coX (F := F) (s := decide (28 ≤ tkd K t)) (v1 := if 28 ≤ tkd K t then 1 else 0) hF hH (by
        by_cases k28 : 28 ≤ tkd K t
        · exact Or.inl ⟨decide_eq_true k28, if_pos k28⟩
        · exact Or.inr ⟨decide_eq_false k28, if_neg k28⟩) wk (by omega) (by omega) hc
      have l1 := LR_FO a2 hl
      obtain ⟨x2, f2⟩ := XR_push (k := tkd K t) a4
      unfold fX12_expression_L234
      rw [a1, bd1_s, l1.2.2.1, if_pos ((nn_inb (by omega)).mpr (by omega)), a4.1, if_pos ((nn_inb (by omega)).mpr (by omega)), nn_cl (by omega), nn_cl (by omega), (l1.2.1 t tN).1, gi_ne (by omega), a4.1, nn_s]
      obtain ⟨ν3, b1, b2, b3⟩ := p_goesR (F := F) g (LR_FV f2 l1) (by unfold tkd at ks; omega)
      have kp : KpR C H ν ν3 := KpR_tr (KpR_tr (KpR_FO a2 a3) (KpR_FV f2)) (KpR_FB b2)
      rw [show km (K t).1 = km (tkd K t) from rfl, b1, bd1_s]
      show ∃ ν', fX12_expression_L12 F (m + 1) 0 1 ν3 = some ν' ∧ _
      rw [fX12_expression_L12, if_neg n1_0]
      by_cases z : t = 400
      · rw [if_pos z] at b3 ⊢
        rw [if_neg (deadR b3).1]
        exact ⟨ν3, rfl, kp, b3⟩
      · rw [if_neg z] at b3 ⊢
        rw [if_pos b3.1]
        obtain ⟨ν', e1, e2, e3⟩ := p_exR hF hH g hC n (t + 1) true _ o _ m F _ (Xi_sign hx ks.1 ks.2) (by omega) b3 (XR_FB b2 x2) (by omega) (by omega)
        exact ⟨ν', e1, KpR_tr kp e2, e3⟩
    rw [if_neg ks]
    by_cases o0 : o = 0
    · have e145 : ∃ ν', fX12_expression_L145 F (fun v1 v2 μ => fX12_expression_L12 F (m + 1) v1 v2 μ) 0 ν = some ν' ∧ KpR C H ν ν' ∧ EXR K N C (Sum.inr (t, (relS false W out).2)) ν' := by
        rw [p_145 g hl, if_neg ks, if_pos (eo.mpr o0)]
        obtain ⟨ν', r1, r2, r3, r4⟩ := p_204 (F := F) hF hH wk (by omega) (by omega) hc
        exact ⟨ν', r1, KpR_FO r2 r3, LR_FO r2 hl, by rw [r4.2.2.1, o0]; rfl, r4.2.2.2.1, r4.2.2.2.2⟩
      rw [if_pos o0]
      by_cases k32 : tkd K t = 32
      · rw [if_pos k32, if_neg n1_0, if_pos (eo.mpr o0)]
        exact e145
      · rw [if_neg k32, if_pos rfl]
        exact e145
    rw [if_neg o0]
    by_cases k32 : tkd K t = 32
    · obtain ⟨o, rfl⟩ : ∃ x, o = x + 1 := ⟨o - 1, by omega⟩
      rw [if_pos k32, if_neg n1_0, if_neg (fun q => o0 (eo.mp q)), if_pos k32, show o + 1 - 1 = o from rfl]
      obtain ⟨ν1, a1, a2, a3, a4⟩ := p_coX (F := F) (s := false) (v1 := 0) hF hH (Or.inr ⟨rfl, rfl⟩) wk (by omega) (by omega) hc
      obtain ⟨xc, R, eR⟩ := Xi_close hx
      obtain ⟨c1, c2, c3, c4, c5⟩ := a4
      rw [eR] at c1 c2 xc rl rm ⊢
      simp only [List.length_cons] at rl rm
      rw [List.tail_cons] at xc ⊢
      rw [a1, bd1_s, c1, gi_ne (by omega), c3, List.length_cons, nn_1m, nn_1m]
      have f2 : fr FV Q0 ν1 (si (si ν1 12 0 41 (nI R.length)) 12 0 12 (nI o)) := fr_tr (fr_si (Or.inl ⟨rfl, Or.inr rfl⟩)) (fr_si (Or.inl ⟨rfl, Or.inl rfl⟩))
      have x2 : XR C R o (relS false W out).2 (si (si ν1 12 0 41 (nI R.length)) 12 0 12 (nI o)) := ⟨(gi_ne (by omega)).trans gi_eq, fun k hk => (gi_ne (by omega)).trans ((gi_ne (by omega)).trans (stk_pop (st := R.map km) (x := km 31) c2 k hk)), gi_eq, (gi_ne (by omega)).trans ((gi_ne (by omega)).trans c4), fun k hk => ⟨(gi_ne (by omega)).trans ((gi_ne (by omega)).trans (c5 k hk).1), (gi_ne (by omega)).trans ((gi_ne (by omega)).trans (c5 k hk).2)⟩⟩
      obtain ⟨ν3, b1, b2, b3⟩ := p_goesR (F := F) g (LR_FV f2 (LR_FO a2 hl)) (by unfold tkd at k32; omega)
      have kp : KpR C H ν ν3 := KpR_tr (KpR_tr (KpR_FO a2 a3) (KpR_FV f2)) (KpR_FB b2)
      have x3 := XR_FB b2 x2
      rw [b1, bd1_s]
      by_cases z : t = 400
      · rw [if_pos z] at b3 ⊢
        obtain ⟨ν', e1, e2, e3⟩ := p_145d (F := F) (K := fun v1 v2 μ => fX12_expression_L12 F (m + 1) v1 v2 μ) hF hH (Wf_k o _ xc.1) (by omega) (by omega) x3 b3
        rw [fX12_expression_L96, p_isRd b3, bd2_s, if_pos rfl]
        exact ⟨ν', e1, KpR_tr kp e2, e3⟩
      · rw [if_neg z] at b3 ⊢
        obtain ⟨ν', e1, e2, e3⟩ := p_exR hF hH g hC n (t + 1) false R o _ (m + 1) (n2 + 1) _ xc (by omega) b3 x3 (by omega) (by omega)
        exact ⟨ν', e1, KpR_tr kp e2, e3⟩
    · rw [if_neg k32, if_pos rfl, if_neg k32, p_145 g hl, if_neg ks, if_neg (fun q => o0 (eo.mp q))]
      obtain ⟨ν1, a1, a2, a3⟩ := p_failR (F := F) (f := 1) g hl (Or.inl rfl)
      obtain ⟨ν', r1, r2, r3, r4⟩ := p_204 (F := F) hF hH wk (by omega) (by omega) (XR_FB a2 hc)
      rw [a1, bd1_s, r1]
      exact ⟨ν', rfl, KpR_tr (KpR_FB a2) (KpR_FO r2 r3), DdR_FO r2 a3⟩
theorem p_sumR {F N C H t : Nat} {K : Nat → Tk} {ν : Mm} (hF : 1000 ≤ F) (hH : H ≤ 840) (g : Gk K N) (hC : C + (402 - t) ≤ H) (hl : LR K N t ν) (h12 : gi ν 12 0 12 = 0) (h37 : gi ν 12 0 37 = nI C) : ∃ ν', fX12_expression F ν = some ν' ∧ KpR C H ν ν' ∧ EXR K N C (exs K t) ν' := by
  have f : fr FV Q0 ν (si ν 12 0 41 0) := fr_si (Or.inl ⟨rfl, Or.inr rfl⟩)
  obtain ⟨ν', r1, r2, r3⟩ := p_exR (F := F) (N := N) (C := C) (t0 := t) (K := K) hF hH g hC 500 t true [] 0 [] (F - 1) F _ Xi_0 (by omega) (LR_FV f hl) ⟨gi_eq, fun k hk => absurd hk (Nat.not_lt_zero _), (gi_ne (by omega)).trans h12, (gi_ne (by omega)).trans h37, fun k hk => absurd hk (Nat.not_lt_zero _)⟩ (by omega) (by omega)
  unfold fX12_expression
  obtain ⟨f1, hf⟩ : ∃ f1, F = f1 + 1 := ⟨F - 1, by omega⟩
  refine ⟨ν', ?_, KpR_tr (KpR_FV f) r2, r3⟩
  rw [gi_ne (by omega), h12, show fX12_expression_L12 F F = fX12_expression_L12 F (f1 + 1) by rw [← hf], fX12_expression_L12, if_neg n1_0, if_pos ((gi_ne (by omega)).trans hl.1)]
  rw [show F - 1 = f1 by omega] at r1
  exact r1
theorem p_sumRd {F : Nat} {e : Int32 × Int32} {ν : Mm} (hF : 1000 ≤ F) (h : DdR e ν) : fX12_expression F ν = some (si ν 12 0 41 0) ∧ DdR e (si ν 12 0 41 0) := by
  have f : fr FV Q0 ν (si ν 12 0 41 0) := fr_si (Or.inl ⟨rfl, Or.inr rfl⟩)
  have d := DdR_FV f h
  unfold fX12_expression
  obtain ⟨f1, hf⟩ : ∃ f1, F = f1 + 1 := ⟨F - 1, by omega⟩
  rw [show ∀ a, fX12_expression_L12 F F a 1 (si ν 12 0 41 0) = fX12_expression_L12 F (f1 + 1) a 1 (si ν 12 0 41 0) by intro a; rw [← hf], fX12_expression_L12, if_neg n1_0, if_neg (deadR d).1]
  exact ⟨rfl, d⟩
