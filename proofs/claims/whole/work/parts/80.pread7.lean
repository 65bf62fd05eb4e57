/-! PURE: read, the reference takes TOKENS and E's -/
def Q0 (_ : Nat) : Prop := False
def LR (K : Nat → Tk) (N t : Nat) (ν : Mm) : Prop := gi ν 12 0 13 = 0 ∧ TKR K N ν ∧ gi ν 12 0 11 = nI t ∧ t ≤ N
def DdR (e : Int32 × Int32) (ν : Mm) : Prop := gi ν 12 0 13 = e.1 ∧ gi ν 12 0 14 = e.2 ∧ (e.1 = 1 ∨ e.1 = 2) ∧ ∃ t, t ≤ 400 ∧ gi ν 12 0 11 = nI t
def RR (K : Nat → Tk) (N : Nat) (r : Sum (Int32 × Int32) Nat) (ν : Mm) : Prop := match r with
  | Sum.inl e => DdR e ν
  | Sum.inr t => LR K N t ν
def FB (c _ j : Nat) : Prop := c = 12 ∧ (j = 11 ∨ j = 13 ∨ j = 14)
theorem deadR {e : Int32 × Int32} {ν : Mm} (h : DdR e ν) : ¬ gi ν 12 0 13 = 0 ∧ ¬ gi ν 12 0 13 ≤ 0 ∧ 0 < gi ν 12 0 13 := by
  rw [h.1]
  rcases h.2.2.1 with q | q <;> rw [q] <;> decide
theorem km_inj : ∀ a, a < 35 → ∀ b, b < 35 → (km a = km b ↔ a = b) := by decide +kernel
theorem km_33 : ∀ k, k < 35 → (km k < 33 ↔ ¬ (13 ≤ k ∧ k ≤ 21)) ∧ ¬ 41 < km k := by decide +kernel
theorem km_v : ∀ k, k < 35 → 13 ≤ k → k ≤ 21 → km k - 33 = nI (k - 13) := by decide +kernel
theorem LR_fr {P : Nat → Nat → Nat → Prop} {N t : Nat} {K : Nat → Tk} {ν ν' : Mm} (h : fr P Q0 ν ν') (h12 : ¬ P 12 0 13 ∧ ¬ P 12 0 11) (h50 : ∀ c j, 50 ≤ c → c ≤ 52 → ¬ P c 0 j) (q : LR K N t ν) : LR K N t ν' := by
  obtain ⟨a1, a2, a3, a4⟩ := q
  refine ⟨(fr_n h h12.1).trans a1, fun i hi => ?_, (fr_n h h12.2).trans a3, a4⟩
  obtain ⟨c1, c2, c3, c4⟩ := a2 i hi
  exact ⟨(fr_n h (h50 _ _ (by omega) (by omega))).trans c1, (fr_n h (h50 _ _ (by omega) (by omega))).trans c2, fun q => (fr_n h (h50 _ _ (by omega) (by omega))).trans (c3 q), fun q => (fr_m h (fun w => w)).trans (c4 q)⟩
theorem DdR_fr {P : Nat → Nat → Nat → Prop} {e : Int32 × Int32} {ν ν' : Mm} (h : fr P Q0 ν ν') (h12 : ∀ j, (j = 11 ∨ j = 13 ∨ j = 14) → ¬ P 12 0 j) (q : DdR e ν) : DdR e ν' := by
  obtain ⟨a1, a2, a3, t, a4, a5⟩ := q
  exact ⟨(fr_n h (h12 _ (by omega))).trans a1, (fr_n h (h12 _ (by omega))).trans a2, a3, t, a4, (fr_n h (h12 _ (by omega))).trans a5⟩
theorem p_isR {F N t k : Nat} {K : Nat → Tk} {ν : Mm} (g : Gk K N) (h : LR K N t ν) (hk : k < 35) : fX12_is F (km k) ν = some (if tkd K t = k then 1 else 0, ν) := by
  obtain ⟨a1, a2, a3, a4⟩ := h
  have hN := g.1.1
  have k34 := g.2.1 t
  unfold fX12_is
  rw [if_pos a1, a3, if_pos ((nn_inb (by omega)).mpr (by omega)), nn_cl (by omega), (a2 t a4).1]
  have e := km_inj (K t).1 (by omega) k hk
  unfold tkd
  by_cases y : (K t).1 = k
  · rw [if_pos (e.mpr y), if_pos y]
  · rw [if_neg (fun q => y (e.mp q)), if_neg y]
theorem p_isRd {F : Nat} {e : Int32 × Int32} {k : Int32} {ν : Mm} (h : DdR e ν) : fX12_is F k ν = some (0, ν) := by
  unfold fX12_is
  rw [if_neg (deadR h).1]
theorem p_failR {F N t : Nat} {K : Nat → Tk} {f : Int32} {ν : Mm} (g : Gk K N) (h : LR K N t ν) (hf : f = 1 ∨ f = 2) : ∃ ν', fX12_fail F f ν = some ν' ∧ fr FB Q0 ν ν' ∧ DdR (f, pl K t) ν' := by
  obtain ⟨a1, a2, a3, a4⟩ := h
  have hN := g.1.1
  unfold fX12_fail
  rw [a1, if_pos (by decide), gi_ne (by omega), a3, if_pos ((nn_inb (by omega)).mpr (by omega)), nn_cl (by omega), gi_ne (by omega), (a2 t a4).2.1]
  refine ⟨_, rfl, fr_tr (fr_si ⟨rfl, by omega⟩) (fr_si ⟨rfl, by omega⟩), ?_, gi_eq, hf, t, by omega, ?_⟩
  · rw [gi_ne (by omega), gi_eq]
  · rw [gi_ne (by omega), gi_ne (by omega), a3]
theorem p_failRd {F : Nat} {e : Int32 × Int32} {f : Int32} {ν : Mm} (h : DdR e ν) : fX12_fail F f ν = some ν := by
  unfold fX12_fail
  rw [if_neg (deadR h).2.1]
theorem p_goesR {F N t : Nat} {K : Nat → Tk} {ν : Mm} (g : Gk K N) (h : LR K N t ν) (hk : (K t).1 ≤ 32) : ∃ ν', fX12_goesOn F ν = some ν' ∧ fr FB Q0 ν ν' ∧ RR K N (if t = 400 then Sum.inl (2, pl K t) else Sum.inr (t + 1)) ν' := by
  have h' := h
  obtain ⟨a1, a2, a3, a4⟩ := h
  have hN := g.1.1
  unfold fX12_goesOn
  rw [a3]
  by_cases z : t = 400
  · rw [if_pos (by rw [z]; rfl), if_pos z]
    obtain ⟨ν', b1, b2, b3⟩ := p_failR (F := F) (f := 2) g h' (Or.inr rfl)
    rw [b1, bd1_s]
    exact ⟨ν', rfl, b2, b3⟩
  · rw [if_neg (show ¬ nI t = 400 by rw [show (400 : Int32) = nI 400 from rfl, nn_inj (by omega) (by omega)]; exact z), if_neg z, nn_s]
    have tN : t + 1 ≤ N := by
      rcases Nat.lt_or_ge t N with q | q
      · exact q
      · have e : t = N := by omega
        rcases g.1.2.2 with w | w
        · rw [← e] at w
          omega
        · omega
    have f1 : fr FB Q0 ν (si ν 12 0 11 (nI (t + 1))) := fr_si ⟨rfl, Or.inl rfl⟩
    refine ⟨_, rfl, f1, (gi_ne (by omega)).trans a1, fun z hz => ?_, gi_eq, tN⟩
    obtain ⟨c1, c2, c3, c4⟩ := a2 z hz
    exact ⟨(gi_ne (by omega)).trans c1, (gi_ne (by omega)).trans c2, fun q => (gi_ne (by omega)).trans (c3 q), fun q => c4 q⟩
theorem p_goesRd {F : Nat} {e : Int32 × Int32} {ν : Mm} (h : DdR e ν) : ∃ ν', fX12_goesOn F ν = some ν' ∧ fr FB Q0 ν ν' ∧ DdR e ν' := by
  obtain ⟨a1, a2, a3, t, a4, a5⟩ := id h
  unfold fX12_goesOn
  rw [a5]
  by_cases z : t = 400
  · rw [if_pos (by rw [z]; rfl), p_failRd h, bd1_s]
    exact ⟨ν, rfl, fr_rfl, h⟩
  · rw [if_neg (show ¬ nI t = 400 by rw [show (400 : Int32) = nI 400 from rfl, nn_inj (by omega) (by omega)]; exact z), nn_s]
    exact ⟨_, rfl, fr_si ⟨rfl, Or.inl rfl⟩, (gi_ne (by omega)).trans a1, (gi_ne (by omega)).trans a2, a3, t + 1, by omega, gi_eq⟩
theorem p_mustR {F N t k : Nat} {K : Nat → Tk} {ν : Mm} (g : Gk K N) (h : LR K N t ν) (hk : k ≤ 32) : ∃ ν', fX12_must F (km k) ν = some ν' ∧ fr FB Q0 ν ν' ∧ RR K N (adv K t k) ν' := by
  unfold fX12_must adv
  rw [p_isR g h (by omega), bd2_s]
  by_cases y : tkd K t = k
  · rw [if_pos y, if_neg n1_0, if_pos y]
    obtain ⟨ν', b1, b2, b3⟩ := p_goesR (F := F) g h (by unfold tkd at y; omega)
    rw [b1, bd1_s]
    exact ⟨ν', rfl, b2, b3⟩
  · rw [if_neg y, if_pos rfl, if_neg y]
    obtain ⟨ν', b1, b2, b3⟩ := p_failR (F := F) (f := 1) g h (Or.inl rfl)
    rw [b1, bd1_s]
    exact ⟨ν', rfl, b2, b3⟩
theorem p_mustRd {F : Nat} {e : Int32 × Int32} {k : Int32} {ν : Mm} (h : DdR e ν) : fX12_must F k ν = some ν := by
  unfold fX12_must
  rw [p_isRd h, bd2_s, if_pos rfl, p_failRd h, bd1_s]
theorem p_emitR {F C : Nat} {a b : Int32} {ν : Mm} (h : gi ν 12 0 37 = nI C) (hC : C < 840) : fX12_emit F a b ν = some (si (si (si ν 70 0 C a) 71 0 C b) 12 0 37 (nI (C + 1))) := by
  have e1 : gi (si ν 70 0 C a) 12 0 37 = nI C := (gi_ne (by omega)).trans h
  have e2 : gi (si (si ν 70 0 C a) 71 0 C b) 12 0 37 = nI C := (gi_ne (by omega)).trans e1
  have hin : inb (nI C) 840 = true := (nn_inb (by omega)).mpr hC
  unfold fX12_emit
  rw [h, nn_cl (by omega), if_pos hin, e1, nn_cl (by omega), if_pos hin, e2, nn_s]
def rsg (ν : Mm) (C : Nat) (l : List Int32) : Prop := ∀ k, (h : k < l.length) → gi ν 70 0 (C + k) = (rc l[k]).1 ∧ gi ν 71 0 (C + k) = (rc l[k]).2
theorem rsg_1 {ν : Mm} {C : Nat} {l : List Int32} {c a b : Int32} {x : Int32} (h : rsg ν C l) (hc : rc c = (a, b)) : rsg (si (si (si ν 70 0 (C + l.length) a) 71 0 (C + l.length) b) 12 0 37 x) C (l ++ [c]) := fun k hk => by
  simp only [List.length_append, List.length_cons, List.length_nil] at hk
  by_cases y : k < l.length
  · rw [List.getElem_append_left y, gi_ne (by omega), gi_ne (by omega), gi_ne (by omega), gi_ne (by omega), gi_ne (by omega), gi_ne (by omega)]
    exact h k y
  · obtain rfl : k = l.length := by omega
    rw [List.getElem_append_right (Nat.le_refl _)]
    simp only [Nat.sub_self, List.getElem_cons_zero]
    rw [hc, gi_ne (by omega), gi_ne (by omega), gi_eq, gi_ne (by omega), gi_eq]
    exact ⟨rfl, rfl⟩
def FO (c _ j : Nat) : Prop := (c = 12 ∧ (j = 37 ∨ j = 41)) ∨ c = 70 ∨ c = 71
def FV (c _ j : Nat) : Prop := (c = 12 ∧ (j = 12 ∨ j = 41)) ∨ c = 72
def FRe (c _ j : Nat) : Prop := (c = 12 ∧ (j = 11 ∨ j = 12 ∨ j = 13 ∨ j = 14 ∨ j = 37 ∨ j = 41)) ∨ c = 70 ∨ c = 71 ∨ c = 72
/-- the reference on its way through an E -/
def XR (C : Nat) (W : List Nat) (o : Nat) (out : List Int32) (ν : Mm) : Prop := gi ν 12 0 41 = nI W.length ∧ stk ν 72 0 (W.map km) ∧ gi ν 12 0 12 = nI o ∧ gi ν 12 0 37 = nI (C + out.length) ∧ rsg ν C out
theorem XR_FB {C o : Nat} {W : List Nat} {out : List Int32} {ν ν' : Mm} (h : fr FB Q0 ν ν') (q : XR C W o out ν) : XR C W o out ν' := by
  obtain ⟨a1, a2, a3, a4, a5⟩ := q
  exact ⟨(fr_n h (by unfold FB; omega)).trans a1, fun k hk => (fr_n h (by unfold FB; omega)).trans (a2 k hk), (fr_n h (by unfold FB; omega)).trans a3, (fr_n h (by unfold FB; omega)).trans a4, fun k hk => ⟨(fr_n h (by unfold FB; omega)).trans (a5 k hk).1, (fr_n h (by unfold FB; omega)).trans (a5 k hk).2⟩⟩
def KpR (C H : Nat) (ν ν' : Mm) : Prop := fr FRe Q0 ν ν' ∧ ∀ c j, c = 70 ∨ c = 71 → (j < C ∨ H ≤ j) → gi ν' c 0 j = gi ν c 0 j
theorem KpR_tr {C H : Nat} {ν ν' ν'' : Mm} (h : KpR C H ν ν') (h' : KpR C H ν' ν'') : KpR C H ν ν'' := ⟨fr_tr h.1 h'.1, fun c j hc hj => (h'.2 c j hc hj).trans (h.2 c j hc hj)⟩
theorem KpR_FB {C H : Nat} {ν ν' : Mm} (h : fr FB Q0 ν ν') : KpR C H ν ν' := ⟨fr_of h (fun c i j q => by unfold FB at q; unfold FRe; omega) (fun c q => q), fun c j hc hj => fr_n h (by unfold FB; omega)⟩
theorem KpR_FV {C H : Nat} {ν ν' : Mm} (h : fr FV Q0 ν ν') : KpR C H ν ν' := ⟨fr_of h (fun c i j q => by unfold FV at q; unfold FRe; omega) (fun c q => q), fun c j hc hj => fr_n h (by unfold FV; omega)⟩
theorem KpR_FO {C H : Nat} {ν ν' : Mm} (h : fr FO Q0 ν ν') (hj : ∀ c j, c = 70 ∨ c = 71 → (j < C ∨ H ≤ j) → gi ν' c 0 j = gi ν c 0 j) : KpR C H ν ν' := ⟨fr_of h (fun c i j q => by unfold FO at q; unfold FRe; omega) (fun c q => q), hj⟩
theorem LR_FO {N t : Nat} {K : Nat → Tk} {ν ν' : Mm} (h : fr FO Q0 ν ν') (q : LR K N t ν) : LR K N t ν' := LR_fr h ⟨by unfold FO; omega, by unfold FO; omega⟩ (fun c j h1 h2 => by unfold FO; omega) q
theorem LR_FV {N t : Nat} {K : Nat → Tk} {ν ν' : Mm} (h : fr FV Q0 ν ν') (q : LR K N t ν) : LR K N t ν' := LR_fr h ⟨by unfold FV; omega, by unfold FV; omega⟩ (fun c j h1 h2 => by unfold FV; omega) q
theorem DdR_FO {e : Int32 × Int32} {ν ν' : Mm} (h : fr FO Q0 ν ν') (q : DdR e ν) : DdR e ν' := DdR_fr h (fun j hj => by unfold FO; omega) q
theorem DdR_FV {e : Int32 × Int32} {ν ν' : Mm} (h : fr FV Q0 ν ν') (q : DdR e ν) : DdR e ν' := DdR_fr h (fun j hj => by unfold FV; omega) q
theorem p_co42 {F w : Nat} {K : Int32 → Mm → Option Mm} {v1 : Int32} {μ : Mm} (h : 26 ≤ w) (h2 : w ≤ 29) : fX12_comesOut_L42 F K v1 (km w) μ = (bd1 (fX12_emit F (rc (scd w)).1 0 (si μ 12 0 41 ((gi μ 12 0 41) - 1))) fun μ10 => K v1 μ10) ∧ (rc (scd w)).2 = 0 := by
  rcases (show w = 26 ∨ w = 27 ∨ w = 28 ∨ w = 29 by omega) with rfl | rfl | rfl | rfl <;> exact ⟨rfl, rfl⟩
theorem pr2 {x : Int32 × Int32} (h : x.2 = 0) : x = (x.1, 0) := by
  obtain ⟨a, b⟩ := x
  have h : b = 0 := h
  rw [h]
theorem p_coR {F C H : Nat} {s : Bool} {v1 : Int32} (hH : H ≤ 840) (hs : (s = true ∧ v1 = 1) ∨ (s = false ∧ v1 = 0)) : ∀ (W : List Nat) (n : Nat) (out : List Int32) (ν : Mm), W.length < n → (∀ w ∈ W, 26 ≤ w ∧ w ≤ 31 ∧ w ≠ 30) → W.length ≤ 64 → gi ν 12 0 41 = nI W.length → stk ν 72 0 (W.map km) → gi ν 12 0 37 = nI (C + out.length) → C + out.length + W.length ≤ H → rsg ν C out → ∃ ν', fX12_comesOut_L0 F n v1 ν = some ν' ∧ fr FO Q0 ν ν' ∧ (∀ c j, c = 70 ∨ c = 71 → (j < C ∨ H ≤ j) → gi ν' c 0 j = gi ν c 0 j) ∧ gi ν' 12 0 41 = nI (relS s W out).1.length ∧ stk ν' 72 0 ((relS s W out).1.map km) ∧ gi ν' 12 0 37 = nI (C + (relS s W out).2.length) ∧ rsg ν' C (relS s W out).2
  | _, 0, _, _, h, _, _, _, _, _, _, _ => absurd h (Nat.not_lt_zero _)
  | [], n + 1, out, ν, h1, hw, h64, h41, hst, h37, hC, hsg => by
    rw [fX12_comesOut_L0, h41, if_pos (by rw [List.length_nil]; decide)]
    exact ⟨ν, rfl, fr_rfl, fun _ _ _ _ => rfl, h41, hst, h37, hsg⟩
  | w :: W, n + 1, out, ν, h1, hw, h64, h41, hst, h37, hC, hsg => by
    simp only [List.length_cons] at h1 h64 hC
    have w1 := hw w List.mem_cons_self
    have ht : gi ν 72 0 W.length = km w := by
      have := stk_top (st := W.map km) (x := km w) hst
      rw [List.length_map] at this
      exact this
    rw [fX12_comesOut_L0, h41, List.length_cons, if_neg (by rw [show (0 : Int32) = nI 0 from rfl, nn_le (by omega) (by omega)]; omega), nn_1m, if_pos ((nn_inb (by omega)).mpr (by omega)), nn_cl (by omega), ht]
    have e := fun k hk => km_inj w (by omega) k hk
    unfold relS
    by_cases y : w = 31
    · rw [if_pos (show km w = 6 from (e 31 (by omega)).mpr y), if_pos (Or.inl y)]
      exact ⟨ν, rfl, fr_rfl, fun _ _ _ _ => rfl, h41, hst, h37, hsg⟩
    · rw [if_neg (show ¬ km w = 6 from fun q => y ((e 31 (by omega)).mp q))]
      have out1 : ¬ (w = 31 ∨ (s = true ∧ w < 28)) → ∃ ν', fX12_comesOut_L42 F (fun v1 μ => fX12_comesOut_L0 F n v1 μ) v1 (km w) ν = some ν' ∧ fr FO Q0 ν ν' ∧ (∀ c j, c = 70 ∨ c = 71 → (j < C ∨ H ≤ j) → gi ν' c 0 j = gi ν c 0 j) ∧ gi ν' 12 0 41 = nI (relS s W (out ++ [scd w])).1.length ∧ stk ν' 72 0 ((relS s W (out ++ [scd w])).1.map km) ∧ gi ν' 12 0 37 = nI (C + (relS s W (out ++ [scd w])).2.length) ∧ rsg ν' C (relS s W (out ++ [scd w])).2 := fun nb => by
        obtain ⟨c1, c2⟩ := p_co42 (F := F) (K := fun v1 μ => fX12_comesOut_L0 F n v1 μ) (v1 := v1) (μ := ν) (show 26 ≤ w by omega) (by omega)
        have f0 : fr FO Q0 ν (si ν 12 0 41 (nI W.length)) := fr_si (Or.inl ⟨rfl, Or.inr rfl⟩)
        rw [c1, h41, List.length_cons, nn_1m, p_emitR ((gi_ne (by omega)).trans h37) (by omega), bd1_s]
        have f1 : fr FO Q0 ν (si (si (si (si ν 12 0 41 (nI W.length)) 70 0 (C + out.length) (rc (scd w)).1) 71 0 (C + out.length) 0) 12 0 37 (nI (C + out.length + 1))) := fr_tr (fr_tr (fr_tr f0 (fr_si (Or.inr (Or.inl rfl)))) (fr_si (Or.inr (Or.inr rfl)))) (fr_si (Or.inl ⟨rfl, Or.inl rfl⟩))
        obtain ⟨ν', r1, r2, r3, r4⟩ := p_coR (F := F) (C := C) hH hs W n (out ++ [scd w]) _ (by omega) (fun z hz => hw z (List.mem_cons_of_mem _ hz)) (by omega) ((gi_ne (by omega)).trans ((gi_ne (by omega)).trans ((gi_ne (by omega)).trans gi_eq))) (fun k hk => (gi_ne (by omega)).trans ((gi_ne (by omega)).trans ((gi_ne (by omega)).trans ((gi_ne (by omega)).trans (stk_pop (st := W.map km) (x := km w) hst k hk))))) (by
          rw [gi_eq, List.length_append, List.length_singleton, Nat.add_assoc]) (by
          simp only [List.length_append, List.length_cons, List.length_nil]
          omega) (rsg_1 (ν := si ν 12 0 41 (nI W.length)) (x := nI (C + out.length + 1)) (fun k hk => ⟨(gi_ne (by omega)).trans (hsg k hk).1, (gi_ne (by omega)).trans (hsg k hk).2⟩) (pr2 c2))
        exact ⟨ν', r1, fr_tr f1 r2, fun c j hc hj => (r3 c j hc hj).trans ((gi_ne (by omega)).trans ((gi_ne (by omega)).trans ((gi_ne (by omega)).trans (gi_ne (by omega))))), r4⟩
      rcases hs with ⟨a, b⟩ | ⟨a, b⟩
      · rw [if_neg (show ¬ v1 = 0 by rw [b]; decide)]
        by_cases z : w < 28
        · rw [if_pos (c := w = 31 ∨ (s = true ∧ w < 28)) (Or.inr ⟨a, z⟩)]
          by_cases z2 : w = 26
          · rw [if_pos (show km w = 8 from (e 26 (by omega)).mpr z2)]
            exact ⟨ν, rfl, fr_rfl, fun _ _ _ _ => rfl, h41, hst, h37, hsg⟩
          · rw [if_neg (show ¬ km w = 8 from fun q => z2 ((e 26 (by omega)).mp q)), if_pos (show km w = 9 from (e 27 (by omega)).mpr (by omega))]
            exact ⟨ν, rfl, fr_rfl, fun _ _ _ _ => rfl, h41, hst, h37, hsg⟩
        · have nb : ¬ (w = 31 ∨ (s = true ∧ w < 28)) := fun q => by
            rcases q with q | q
            · exact y q
            · exact z q.2
          rw [if_neg (show ¬ km w = 8 from fun q => z (by rw [(e 26 (by omega)).mp q]; decide)), if_neg (show ¬ km w = 9 from fun q => z (by rw [(e 27 (by omega)).mp q]; decide)), if_neg nb]
          exact out1 nb
      · have nb : ¬ (w = 31 ∨ (s = true ∧ w < 28)) := fun q => by
          rcases q with q | q
          · exact y q
          · rw [a] at q
            exact absurd q.1 (by decide)
        rw [if_pos b, if_neg nb]
        exact out1 nb
theorem p_coX {F C H o : Nat} {s : Bool} {v1 : Int32} {W : List Nat} {out : List Int32} {ν : Mm} (hF : 1000 ≤ F) (hH : H ≤ 840) (hs : (s = true ∧ v1 = 1) ∨ (s = false ∧ v1 = 0)) (hw : ∀ w ∈ W, 26 ≤ w ∧ w ≤ 31 ∧ w ≠ 30) (h64 : W.length ≤ 64) (hC : C + out.length + W.length ≤ H) (h : XR C W o out ν) : ∃ ν', fX12_comesOut F v1 ν = some ν' ∧ fr FO Q0 ν ν' ∧ (∀ c j, c = 70 ∨ c = 71 → (j < C ∨ H ≤ j) → gi ν' c 0 j = gi ν c 0 j) ∧ XR C (relS s W out).1 o (relS s W out).2 ν' := by
  obtain ⟨a1, a2, a3, a4, a5⟩ := h
  unfold fX12_comesOut
  obtain ⟨ν', r1, r2, r3, r4, r5, r6, r7⟩ := p_coR (F := F) (C := C) hH hs W F out ν (by omega) hw h64 a1 a2 a4 hC a5
  exact ⟨ν', r1, r2, r3, r4, r5, (fr_n r2 (by unfold FO; omega)).trans a3, r6, r7⟩
theorem XR_push {C o k : Nat} {W : List Nat} {out : List Int32} {ν : Mm} (h : XR C W o out ν) : XR C (k :: W) o out (si (si ν 72 0 W.length (km k)) 12 0 41 (nI (W.length + 1))) ∧ fr FV Q0 ν (si (si ν 72 0 W.length (km k)) 12 0 41 (nI (W.length + 1))) := by
  obtain ⟨a1, a2, a3, a4, a5⟩ := h
  refine ⟨⟨by rw [gi_eq, List.length_cons], ?_, (gi_ne (by omega)).trans ((gi_ne (by omega)).trans a3), (gi_ne (by omega)).trans ((gi_ne (by omega)).trans a4), fun k hk => ⟨(gi_ne (by omega)).trans ((gi_ne (by omega)).trans (a5 k hk).1), (gi_ne (by omega)).trans ((gi_ne (by omega)).trans (a5 k hk).2)⟩⟩, fr_tr (fr_si (Or.inr rfl)) (fr_si (Or.inl ⟨rfl, Or.inr rfl⟩))⟩
  have q := stk_push (x := km k) a2
  rw [List.length_map] at q
  exact fun j hj => (gi_ne (by omega)).trans (q j hj)
