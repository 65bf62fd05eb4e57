/-! PURE: the tape, what is told, squares compared, on their own, counts -/
def btS (a : Int32) (k : Nat) : Int32 := match k with
  | 0 => (a >>> (24 &&& 31)).toInt8.toInt32
  | 1 => (a >>> (16 &&& 31)).toInt8.toInt32
  | 2 => (a >>> (8 &&& 31)).toInt8.toInt32
  | _ => a.toInt8.toInt32
theorem bt_b (a : Int32) (k : Nat) : (btS a k).toInt8.toInt32 = btS a k := by
  unfold btS
  split <;> simp
theorem bt_bx (a : Int32) (k : Nat) : vp_nar .byte (btS a k) = btS a k := (vp_nar_byte _).trans (bt_b a k)
def Tp (c i j : Nat) : Prop := c = 29 ∨ c = 7
def Tr (c i j : Nat) : Prop := c = 48 ∨ (c = 12 ∧ j = 2)
theorem sh0 (a : Int32) : a >>> ((0 : Int32) &&& 31) = a := by
  simp
theorem p_appC {F L : Nat} {a : Int32} {μ : Mm} (hL : L + 4 ≤ 2000) (h : gi μ 7 0 0 = nI L) : ∃ μ', fX7_append F a μ = some μ' ∧ ag Tp μ μ' ∧ gi μ' 7 0 0 = nI (L + 4) ∧ ∀ j, gi μ' 29 0 j = if L ≤ j ∧ j < L + 4 then btS a (j - L) else gi μ 29 0 j := by
  have k : ∀ (μ : Mm) (j : Nat) (v : Int32), gi (si μ 29 0 j v) 7 0 0 = gi μ 7 0 0 := fun μ j v => gi_ne (by omega)
  unfold fX7_append fX7_hasRoom
  rw [h, show (4 : Int32) = nI 4 from rfl, nn_add, show (2000 : Int32) = nI 2000 from rfl, if_neg (by rw [nn_lt (by omega) (by omega)]; omega), bd2_s, if_neg n1_0]
  simp only [k, h, show (1 : Int32) = nI 1 from rfl, show (2 : Int32) = nI 2 from rfl, show (3 : Int32) = nI 3 from rfl, nn_add]
  rw [if_pos ((nn_inb (by omega)).mpr (by omega)), if_pos ((nn_inb (by omega)).mpr (by omega)), if_pos ((nn_inb (by omega)).mpr (by omega)), if_pos ((nn_inb (by omega)).mpr (by omega)), nn_cl (by omega), nn_cl (by omega), nn_cl (by omega), nn_cl (by omega)]
  refine ⟨_, rfl, ⟨fun c i j w => ?_, fun _ _ _ => rfl⟩, gi_eq, fun j => ?_⟩
  · unfold Tp at w
    simp only [gi_si]
    rw [if_neg (by omega), if_neg (by omega), if_neg (by omega), if_neg (by omega), if_neg (by omega)]
  · rw [gi_ne (by omega)]
    have b0 : vp_nar .byte (a >>> (24 &&& 31)).toInt8.toInt32 = btS a 0 := bt_bx a 0
    have b1 : vp_nar .byte (a >>> (16 &&& 31)).toInt8.toInt32 = btS a 1 := bt_bx a 1
    have b2 : vp_nar .byte (a >>> (8 &&& 31)).toInt8.toInt32 = btS a 2 := bt_bx a 2
    have b3 : vp_nar .byte a.toInt8.toInt32 = btS a 3 := bt_bx a 3
    simp only [gi_si, b0, b1, b2, b3, true_and]
    by_cases h3 : j = L + 3
    · subst h3
      rw [if_pos rfl, if_pos (by omega), Nat.add_sub_cancel_left]
    rw [if_neg h3]
    by_cases h2 : j = L + 2
    · subst h2
      rw [if_pos rfl, if_pos (by omega), Nat.add_sub_cancel_left]
    rw [if_neg h2]
    by_cases h1 : j = L + 1
    · subst h1
      rw [if_pos rfl, if_pos (by omega), Nat.add_sub_cancel_left]
    rw [if_neg h1]
    by_cases h0 : j = L
    · subst h0
      rw [if_pos rfl, if_pos (by omega), Nat.sub_self]
    rw [if_neg h0, if_neg (by omega)]
theorem p_layR {F L : Nat} {a : Int32} {ν : Mm} (hF : 1000 ≤ F) (hL : L + 4 ≤ 2000) (h : gi ν 12 0 2 = nI L) : ∃ ν', fX12_lays F a ν = some ν' ∧ ag Tr ν ν' ∧ gi ν' 12 0 2 = nI (L + 4) ∧ ∀ j, gi ν' 48 0 j = if L ≤ j ∧ j < L + 4 then btS a (j - L) else gi ν 48 0 j := by
  have one : ∀ (n M : Nat) (k : Int32) (ν : Mm), M < 2000 → ¬ k < 0 → gi ν 12 0 2 = nI M → fX12_lays_L3 F (n + 1) a k ν = fX12_lays_L3 F n a (k + (-8)) (si (si ν 48 0 M (vp_nar .byte (a >>> (k &&& 31)).toInt8.toInt32)) 12 0 2 (nI (M + 1))) := fun n M k ν hM hk hg => by
    rw [fX12_lays_L3, if_neg hk, hg, if_pos ((nn_inb (by omega)).mpr (by omega)), nn_cl (by omega), gi_ne (by omega), hg, nn_s]
  obtain ⟨m, hm⟩ : ∃ m, F = m + 5 := ⟨F - 5, by omega⟩
  unfold fX12_lays
  rw [show fX12_lays_L3 F F a 24 ν = fX12_lays_L3 F (m + 5) a 24 ν by rw [← hm], one (m + 4) L 24 ν (by omega) (by decide) h, show (24 : Int32) + (-8) = 16 from rfl, one (m + 3) (L + 1) 16 _ (by omega) (by decide) gi_eq, show (16 : Int32) + (-8) = 8 from rfl, one (m + 2) (L + 2) 8 _ (by omega) (by decide) gi_eq, show (8 : Int32) + (-8) = 0 from rfl, one (m + 1) (L + 3) 0 _ (by omega) (by decide) gi_eq, fX12_lays_L3, if_pos (by decide), sh0]
  refine ⟨_, rfl, ⟨fun c i j w => ?_, fun _ _ _ => rfl⟩, gi_eq, fun j => ?_⟩
  · unfold Tr at w
    simp only [gi_si]
    rw [if_neg (by omega), if_neg (by omega), if_neg (by omega), if_neg (by omega), if_neg (by omega), if_neg (by omega), if_neg (by omega), if_neg (by omega)]
  · have b0 : vp_nar .byte (a >>> (24 &&& 31)).toInt8.toInt32 = btS a 0 := bt_bx a 0
    have b1 : vp_nar .byte (a >>> (16 &&& 31)).toInt8.toInt32 = btS a 1 := bt_bx a 1
    have b2 : vp_nar .byte (a >>> (8 &&& 31)).toInt8.toInt32 = btS a 2 := bt_bx a 2
    have b3 : vp_nar .byte a.toInt8.toInt32 = btS a 3 := bt_bx a 3
    rw [gi_ne (by omega), gi_si]
    by_cases h3 : j = L + 3
    · subst h3
      rw [if_pos ⟨rfl, rfl, rfl⟩, if_pos (by omega), Nat.add_sub_cancel_left, b3]
    rw [if_neg (by omega), gi_ne (by omega), gi_si]
    by_cases h2 : j = L + 2
    · subst h2
      rw [if_pos ⟨rfl, rfl, rfl⟩, if_pos (by omega), Nat.add_sub_cancel_left, b2]
    rw [if_neg (by omega), gi_ne (by omega), gi_si]
    by_cases h1 : j = L + 1
    · subst h1
      rw [if_pos ⟨rfl, rfl, rfl⟩, if_pos (by omega), Nat.add_sub_cancel_left, b1]
    rw [if_neg (by omega), gi_ne (by omega), gi_si]
    by_cases h0 : j = L
    · subst h0
      rw [if_pos ⟨rfl, rfl, rfl⟩, if_pos (by omega), Nat.sub_self, b0]
    rw [if_neg (by omega), if_neg (by omega)]
def TpL (L : Nat) (μ ν : Mm) : Prop := gi μ 7 0 0 = nI L ∧ gi ν 12 0 2 = nI L ∧ ∀ j, j < L → gi μ 29 0 j = gi ν 48 0 j ∧ (gi ν 48 0 j).toInt8.toInt32 = gi ν 48 0 j
theorem p_app {F L : Nat} {a : Int32} {μ ν : Mm} (hF : 1000 ≤ F) (hL : L + 4 ≤ 2000) (h : TpL L μ ν) : ∃ μ' ν', fX7_append F a μ = some μ' ∧ fX12_lays F a ν = some ν' ∧ ag Tp μ μ' ∧ ag Tr ν ν' ∧ TpL (L + 4) μ' ν' := by
  obtain ⟨h1, h2, h3⟩ := h
  obtain ⟨μ', a1, a2, a3, a4⟩ := p_appC (F := F) (a := a) hL h1
  obtain ⟨ν', b1, b2, b3, b4⟩ := p_layR (a := a) hF hL h2
  refine ⟨μ', ν', a1, b1, a2, b2, a3, b3, fun j hj => ?_⟩
  rw [a4, b4]
  by_cases w : L ≤ j ∧ j < L + 4
  · rw [if_pos w, if_pos w]
    exact ⟨rfl, bt_b _ _⟩
  · rw [if_neg w, if_neg w]
    exact h3 j (by omega)
theorem IV_tape {u s : Bool} {μ μ' ν ν' : Mm} {L : Nat} (hL : L ≤ 2000) (h1 : ag Tp μ μ') (h2 : ag Tr ν ν') (h : TpL L μ' ν') (q : Inv u s μ ν) : Inv u s μ' ν' := by
  obtain ⟨T, S, X, e, q1, q2, q3⟩ := q
  have hn := q1.2.2.1.1
  have n1 : ∀ {c i j}, ¬ Tp c i j → gi μ' c i j = gi μ c i j := fun h => ag_n h1 h
  have n2 : ∀ {c i j}, ¬ Tr c i j → gi ν' c i j = gi ν c i j := fun h => ag_n h2 h
  obtain ⟨a1, a2, a3, a4, a5, a6, a7, a8, a9, a10, a11, a12, a13⟩ := id q1
  exact ⟨T, S, X, e, IB_gen (ag_of h1 (fun c i j w => by unfold Tp at w; unfold DG; omega)) (ag_of h2 (fun c i j w => by unfold Tr at w; unfold RG; omega)) (SL_ag hn (fun j => n1 (by unfold Tp; omega)) (fun a j g => n1 (by unfold Tp; omega)) (fun j => ⟨n2 (by unfold Tr; omega), n2 (by unfold Tr; omega)⟩) a9) ⟨L, hL, h⟩ (TO_ag (n1 (by unfold Tp; omega)) (n2 (by unfold Tr; omega)) (fun c j g1 g2 => n1 (by unfold Tp; omega)) (fun c j g1 g2 => n2 (by unfold Tr; omega)) a12) q1, IE_ag hn h1 h2 (fun c i j w => by unfold Tp at w; omega) (fun c i j w => by unfold Tr at w; omega) q2, HI_ag hn h1 h2 (fun c i j w => by unfold Tp at w; omega) (fun c i j w => by unfold Tr at w; omega) q3⟩
theorem o_feed {F : Nat} (hF : 1000 ≤ F) (a b c d e : Int32) : st2 Inv (fX11_feed F a b c d e) (fX12_feed F a b c d e) := fun u s μ ν q => by
  obtain ⟨T, S, X, ev, q1, q2, q3⟩ := id q
  obtain ⟨L, hL, t1, t2, t3⟩ := q1.2.2.2.2.2.2.2.2.2.1
  unfold fX11_feed fX12_feed fX7_hasRoom
  rw [t1, t2, show (20 : Int32) = nI 20 from rfl, nn_add, show (2000 : Int32) = nI 2000 from rfl]
  by_cases w : L + 20 ≤ 2000
  · rw [if_neg (by rw [nn_lt (by omega) (by omega)]; omega), if_pos (by rw [nn_le (by omega) (by omega)]; omega), bd2_s, if_neg n1_0]
    obtain ⟨μ1, ν1, a1, b1, c1, d1, h1⟩ := p_app (F := F) (a := a) (L := L) hF (by omega) ⟨t1, t2, t3⟩
    obtain ⟨μ2, ν2, a2, b2, c2, d2, h2⟩ := p_app (F := F) (a := b) hF (by omega) h1
    obtain ⟨μ3, ν3, a3, b3, c3, d3, h3⟩ := p_app (F := F) (a := c) hF (by omega) h2
    obtain ⟨μ4, ν4, a4, b4, c4, d4, h4⟩ := p_app (F := F) (a := d) hF (by omega) h3
    obtain ⟨μ5, ν5, a5, b5, c5, d5, h5⟩ := p_app (F := F) (a := e) hF (by omega) h4
    rw [a1, b1, bd1_s, bd1_s, a2, b2, bd1_s, bd1_s, a3, b3, bd1_s, bd1_s, a4, b4, bd1_s, bd1_s, a5, b5, bd1_s, bd1_s, h5.1, h5.2.1]
    exact ⟨_, μ5, ν5, rfl, rfl, IV_tape (by omega) (ag_tr c1 (ag_tr c2 (ag_tr c3 (ag_tr c4 c5)))) (ag_tr d1 (ag_tr d2 (ag_tr d3 (ag_tr d4 d5)))) h5 q⟩
  · rw [if_pos (by rw [nn_lt (by omega) (by omega)]; omega), if_neg (by rw [nn_le (by omega) (by omega)]; omega), bd2_s, if_pos rfl]
    exact ⟨_, μ, ν, rfl, rfl, q⟩
theorem o_back {F : Nat} (a : Int32) : st2 Inv (fX11_back F a) (fX12_back F a) := fun u s μ ν q => by
  obtain ⟨T, S, X, ev, q1, q2, q3⟩ := id q
  obtain ⟨L, hL, t1, t2, t3⟩ := q1.2.2.2.2.2.2.2.2.2.1
  unfold fX11_back fX12_back
  by_cases w0 : a.toInt < 0
  · rw [if_pos (i_lt0.mpr w0), if_pos (i_lt0.mpr w0)]
    exact ⟨_, μ, ν, rfl, rfl, q⟩
  rw [if_neg (fun z => w0 (i_lt0.mp z)), if_neg (fun z => w0 (i_lt0.mp z)), t1, t2]
  by_cases w1 : a ≤ nI L
  · have hk2 : a.toInt ≤ L := by
      have := i_le.mp w1
      rw [nI_toInt (by omega)] at this
      exact this
    obtain ⟨k, hk, hk3⟩ : ∃ k, a = nI k ∧ k ≤ L := ⟨a.toInt.toNat, nn_get (by omega), by omega⟩
    rw [if_pos w1, if_pos w1, gi_eq, gi_eq, hk, nn_sub hk3]
    refine ⟨_, _, _, rfl, rfl, IV_tape (L := L - k) (by omega) (ag_si (Or.inr rfl)) (ag_si (Or.inr ⟨rfl, rfl⟩)) ⟨gi_eq, gi_eq, fun j hj => ?_⟩ q⟩
    rw [gi_ne (by omega), gi_ne (by omega)]
    exact t3 j (by omega)
  · rw [if_neg w1, if_neg w1]
    exact ⟨_, μ, ν, rfl, rfl, q⟩
