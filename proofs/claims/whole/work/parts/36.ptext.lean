/-! PURE: the text that is in place, both sides; what a LAW is worth -/
theorem tz_mx (x y : Int32) : (mx x y).toInt = max x.toInt y.toInt := by
  unfold mx
  by_cases h : x.toInt < y.toInt
  · rw [if_pos (i_lt.mpr h)]
    omega
  · rw [if_neg (fun q => h (i_lt.mp q))]
    omega
theorem tz_mn (x y : Int32) : (mn x y).toInt = min x.toInt y.toInt := by
  unfold mn
  by_cases h : y.toInt < x.toInt
  · rw [if_pos (i_lt.mpr h)]
    omega
  · rw [if_neg (fun q => h (i_lt.mp q))]
    omega
/-- squares, figures, the seed; how many MOVES a FIGURE has; its MOVES; LAWS -/
abbrev Xt : Type := (Nat × Nat × Int32) × (Nat → Nat) × (Nat → Nat → Int32 × Int32) × (Nat → List Br × List Int32)
def xn (X : Xt) : Nat := X.1.1
def xm (X : Xt) : Nat := X.1.2.1
def xs (X : Xt) : Int32 := X.1.2.2
def xl (X : Xt) : Nat → Nat := X.2.1
def xv (X : Xt) : Nat → Nat → Int32 × Int32 := X.2.2.1
def xb (X : Xt) : Nat → List Br × List Int32 := X.2.2.2
def Xok (X : Xt) : Prop := xn X ≤ 4 ∧ xm X ≤ 5 ∧ (∀ f, f < xm X → xl X f ≤ 8 ∧ ∀ j, j < xl X f → mvok (xv X f j)) ∧ ∀ k, k < 4 → lok (xb X k).1 (xb X k).2
/-- the class's text T is X -/
def CT (μ : Mm) (T : Nat) (X : Xt) : Prop := gi μ 8 T 0 = nI (xn X) ∧ gi μ 8 T 1 = nI (xm X) ∧ gi μ 8 T 2 = xs X ∧
  (∀ f, f < xm X → gi μ 3 (9 * T + 4 + f) 0 = nI (xl X f) ∧ (∀ j, j < xl X f → gi μ 25 (9 * T + 4 + f) j = (xv X f j).1 ∧ gi μ 26 (9 * T + 4 + f) j = (xv X f j).2) ∧ tbC μ (9 * T + 4 + f) = tbs (xv X f) (xl X f) 0 tb0) ∧
  ∃ P, P ≤ 408 ∧ gi μ 8 T 5 = nI P ∧ ∀ k, k < 4 → ∃ p, gi μ 38 T k = nI p ∧ cEnc μ T P (xb X k).1 (xb X k).2 p
def dfl (k : Nat) : Int32 := [-8, 1, -3, 0].getD k 0
/-- the reference's side S is X -/
def RT (ν : Mm) (S : Nat) (X : Xt) : Prop := gi ν 56 0 S = nI (xn X) ∧ gi ν 57 0 S = nI (xm X) ∧ gi ν 62 0 S = xs X ∧
  (∀ f, f < xm X → gi ν 58 0 (9 * S + 4 + f) = nI (xl X f) ∧ ∀ j, j < xl X f → gi ν 59 0 (8 * (9 * S + 4 + f) + j) = (xv X f j).1 ∧ gi ν 60 0 (8 * (9 * S + 4 + f) + j) = (xv X f j).2) ∧
  ∀ k, k < 4 → rEnc ν (4 * S + k) (xb X k).1 (xb X k).2 ∨ (gi ν 63 0 (4 * S + k) = gi ν 64 0 (4 * S + k) ∧ xb X k = ([], [dfl k]))
/-- the cells of a text of the class, of the reference -/
def Tc (c i : Nat) : Prop := c = 8 ∨ c = 3 ∨ c = 25 ∨ c = 26 ∨ c = 37 ∨ c = 38 ∨ (c = 6 ∧ i < 18)
theorem CT_of {μ μ' : Mm} {T : Nat} {X : Xt} (hT : T < 2) (hX : Xok X) (h : ∀ c i j, Tc c i → gi μ' c i j = gi μ c i j) (q : CT μ T X) : CT μ' T X := by
  obtain ⟨q1, q2, q3, q4, P, q5, q6, q7⟩ := q
  have h8 : ∀ j, gi μ' 8 T j = gi μ 8 T j := fun j => h 8 T j (Or.inl rfl)
  refine ⟨(h8 0).trans q1, (h8 1).trans q2, (h8 2).trans q3, fun f hf => ?_, P, q5, (h8 5).trans q6, fun k hk => ?_⟩
  · obtain ⟨a1, a2, a3⟩ := q4 f hf
    have hm := hX.2.1
    refine ⟨(h 3 _ _ (by unfold Tc; omega)).trans a1, fun j hj => ⟨(h 25 _ _ (by unfold Tc; omega)).trans (a2 j hj).1, (h 26 _ _ (by unfold Tc; omega)).trans (a2 j hj).2⟩, ?_⟩
    rw [← a3]
    unfold tbC
    rw [h 6 _ _ (by unfold Tc; omega), h 6 _ _ (by unfold Tc; omega), h 6 _ _ (by unfold Tc; omega), h 6 _ _ (by unfold Tc; omega)]
  · obtain ⟨p, a1, a2⟩ := q7 k hk
    exact ⟨p, (h 38 _ _ (by unfold Tc; omega)).trans a1, cEnc_ag (fun j => h 37 _ _ (by unfold Tc; omega)) _ _ _ a2⟩
theorem RT_of {ν ν' : Mm} {S : Nat} {X : Xt} (h : ∀ c j, 56 ≤ c → c ≤ 71 → gi ν' c 0 j = gi ν c 0 j) (q : RT ν S X) : RT ν' S X := by
  obtain ⟨q1, q2, q3, q4, q5⟩ := q
  refine ⟨(h _ _ (by omega) (by omega)).trans q1, (h _ _ (by omega) (by omega)).trans q2, (h _ _ (by omega) (by omega)).trans q3, fun f hf => ⟨(h _ _ (by omega) (by omega)).trans (q4 f hf).1, fun j hj => ⟨(h _ _ (by omega) (by omega)).trans ((q4 f hf).2 j hj).1, (h _ _ (by omega) (by omega)).trans ((q4 f hf).2 j hj).2⟩⟩, fun k hk => ?_⟩
  rcases q5 k hk with ⟨b, r1, r2, r3, r4⟩ | ⟨r1, r2⟩
  · exact Or.inl ⟨b, (h _ _ (by omega) (by omega)).trans r1, (h _ _ (by omega) (by omega)).trans r2, r3, rBx_kp (Nat.le_refl _) (Nat.le_refl _) _ _ _ (fun c j g1 g2 _ _ => h _ _ (by omega) (by omega)) (fun c j g1 _ _ => h _ _ (by omega) (by omega)) r4⟩
  · exact Or.inr ⟨by rw [h _ _ (by omega) (by omega), h _ _ (by omega) (by omega)]; exact r1, r2⟩
/-- the VARS -/
def vrS (t : Tg) (tired minute number moves called : Int32) (k : Nat) : Int32 := match k with
  | 0 => ab t.1
  | 1 => t.2
  | 2 => crS t
  | 3 => enS t
  | 4 => tired
  | 5 => minute
  | 6 => number
  | 7 => moves
  | _ => called
def wth (X : Xt) (k : Nat) (v : Nat → Int32) : Int32 := mx 0 (mn (mostW.getD k 0) (lawE v (xb X k).1 (xb X k).2))
theorem wth_b (X : Xt) {k : Nat} (hk : k < 4) (v : Nat → Int32) : 0 ≤ (wth X k v).toInt ∧ (wth X k v).toInt ≤ 100 ∧ (k ≠ 3 → (wth X k v).toInt ≤ 99) := by
  have e : (wth X k v).toInt = max 0 (min (mostW.getD k 0).toInt (lawE v (xb X k).1 (xb X k).2).toInt) := by
    unfold wth
    rw [tz_mx, tz_mn]
    rfl
  rcases (show k = 0 ∨ k = 1 ∨ k = 2 ∨ k = 3 by omega) with rfl | rfl | rfl | rfl
  · rw [show (mostW.getD 0 0).toInt = 99 from rfl] at e
    omega
  · rw [show (mostW.getD 1 0).toInt = 99 from rfl] at e
    omega
  · rw [show (mostW.getD 2 0).toInt = 99 from rfl] at e
    omega
  · rw [show (mostW.getD 3 0).toInt = 100 from rfl] at e
    omega
/-- what working out a LAW may write in the class: VARS and the stack of a text -/
def Sv (c i j : Nat) : Prop := c = 39 ∨ c = 40
theorem p_worth {F T k i : Nat} {X : Xt} {μ : Mm} {number minute moves : Int32} (hF : 1000 ≤ F) (hX : Xok X) (hC : CT μ T X) (hk : k < 4) (hi : tV (tgC μ i)) : ∃ μ', ag Sv μ μ' ∧ fX8_worth F T (nI k) i number minute moves μ = some (wth X k (vrS (tgC μ i) (gi μ 5 i 2) minute number moves (gi μ 5 i 3)), μ') := by
  obtain ⟨q1, q2, q3, q4, P, q5, q6, q7⟩ := hC
  obtain ⟨p, a1, a2⟩ := q7 k hk
  have hl := hX.2.2.2 k hk
  unfold fX8_worth
  rw [if_neg (nn_neg (by omega)), if_pos (by rw [show (4 : Int32) = nI 4 from rfl, nn_lt (by omega) (by decide)]; exact hk)]
  have hc : tgC (si (si μ 39 T 0 (ab (gi μ 5 i 0))) 39 T 1 (gi (si μ 39 T 0 (ab (gi μ 5 i 0))) 5 i 1)) i = tgC μ i := by simp [tgC, gi_si]
  rw [p_crossC hF (by rw [hc]; exact hi), bd2_s, p_endsC, bd2_s, if_pos ((nn_inb (by omega)).mpr hk), nn_cl (by omega), hc]
  generalize hm : si (si (si (si (si (si (si (si (si μ 39 T 0 (ab (gi μ 5 i 0))) 39 T 1 (gi (si μ 39 T 0 (ab (gi μ 5 i 0))) 5 i 1)) 39 T 2 (crS (tgC μ i))) 39 T 3 (enS (tgC (si (si (si μ 39 T 0 (ab (gi μ 5 i 0))) 39 T 1 (gi (si μ 39 T 0 (ab (gi μ 5 i 0))) 5 i 1)) 39 T 2 (crS (tgC μ i))) i))) 39 T 4 _) 39 T 5 minute) 39 T 6 number) 39 T 7 moves) 39 T 8 _ = m
  have hag : ag Sv μ m := by
    rw [← hm]
    refine ag_tr ?_ (ag_si (Or.inl rfl))
    refine ag_tr ?_ (ag_si (Or.inl rfl))
    refine ag_tr ?_ (ag_si (Or.inl rfl))
    refine ag_tr ?_ (ag_si (Or.inl rfl))
    refine ag_tr ?_ (ag_si (Or.inl rfl))
    refine ag_tr ?_ (ag_si (Or.inl rfl))
    refine ag_tr ?_ (ag_si (Or.inl rfl))
    exact ag_tr (ag_si (Or.inl rfl)) (ag_si (Or.inl rfl))
  have hn : ∀ c j, c ≠ 39 → c ≠ 40 → gi m c T j = gi μ c T j := fun c j g1 g2 => hag.1 _ _ _ (by unfold Sv; omega)
  have hvv : ∀ k, k < 9 → gi m 39 T k = vrS (tgC μ i) (gi μ 5 i 2) minute number moves (gi μ 5 i 3) k := fun k hk => by
    rw [← hm]
    rcases (show k = 0 ∨ k = 1 ∨ k = 2 ∨ k = 3 ∨ k = 4 ∨ k = 5 ∨ k = 6 ∨ k = 7 ∨ k = 8 by omega) with rfl | rfl | rfl | rfl | rfl | rfl | rfl | rfl | rfl <;> simp [gi_si, vrS, tgC]
  rw [hn 38 k (by omega) (by omega), a1]
  have h9 : ∀ x : Int32, mx 0 x = if 0 < x then x else 0 := fun x => rfl
  unfold fX8_run
  rw [show mx 0 (nI p) = nI p by
    rw [h9]
    split
    · rfl
    · rename_i q
      have hp := cEnc_lt _ _ _ a2
      rw [show (0 : Int32) = nI 0 from rfl, nn_lt (by decide) (by omega)] at q
      rw [show p = 0 by omega]
      rfl]
  obtain ⟨μ', b1, b2⟩ := p_law (F := F) (T := T) (v := vrS (tgC μ i) (gi μ 5 i 2) minute number moves (gi μ 5 i 3)) q5 _ _ p m hl (cEnc_ag (fun j => hn 37 j (by omega) (by omega)) _ _ _ a2) ((hn 8 5 (by omega) (by omega)).trans q6) hvv
  refine ⟨μ', ag_tr hag (ag_agr b1 (fun j => Or.inr rfl)), ?_⟩
  rw [show (0 : Int32) = nI 0 from rfl, b2 F (by omega), bd2_s]
  rfl
/-! the reference -/
theorem p_within {F : Nat} {ν : Mm} {r m : Int32} (hm : 0 ≤ m.toInt) : fX12_within F r 0 m ν = some (mx 0 (mn m r), ν) := by
  unfold fX12_within
  have e : ∀ y : Int32, y.toInt = max 0 (min m.toInt r.toInt) → some (y, ν) = some (mx 0 (mn m r), ν) := fun y h => by
    rw [show y = mx 0 (mn m r) from i_eq.mpr (by rw [tz_mx, tz_mn, z0]; exact h)]
  by_cases h1 : 0 ≤ r.toInt
  · rw [if_pos (i_0le.mpr h1)]
    by_cases h2 : r.toInt ≤ m.toInt
    · rw [if_pos (i_le.mpr h2)]
      exact e _ (by omega)
    · rw [if_neg (fun q => h2 (i_le.mp q))]
      exact e _ (by omega)
  · rw [if_neg (fun q => h1 (i_0le.mp q))]
    exact e _ (by rw [z0]; omega)
/-- what looking may write in the reference -/
def Pl (c i j : Nat) : Prop := c = 73 ∨ c = 74 ∨ (c = 12 ∧ j = 44)
theorem p_looks {F s : Nat} {ν : Mm} {t : Tg} (hF : 1000 ≤ F) (hs : s < 4) (ht : tV t) (hr : gi ν 76 0 s = enc t) : ∃ ν', ag Pl ν ν' ∧ fX12_looks F (nI s) ν = some ν' ∧ ∀ k, k < 9 → gi ν' 73 0 k = vrS t (gi ν 76 0 (4 + s)) (gi ν 76 0 12) (nI s) 0 (gi ν 76 0 (8 + s)) k := by
  unfold fX12_looks
  rw [if_pos ((nn_inb (by omega)).mpr (by omega)), nn_cl (by omega), hr, p_over ht, bd2_s, p_off (by obtain ⟨a1, _⟩ := ht; omega), bd2_s]
  rw [show gi (si ν 73 0 0 (ab t.1)) 76 0 s = enc t by rw [gi_si, if_neg (by omega)]; exact hr, p_under ht, bd2_s]
  rw [show gi (si (si ν 73 0 0 (ab t.1)) 73 0 1 t.2) 76 0 s = enc t by rw [gi_si, if_neg (by omega), gi_si, if_neg (by omega)]; exact hr, p_crossR hF ht, bd2_s]
  rw [show gi (si (si (si ν 73 0 0 (ab t.1)) 73 0 1 t.2) 73 0 2 (crS t)) 76 0 s = enc t by rw [gi_si, if_neg (by omega), gi_si, if_neg (by omega), gi_si, if_neg (by omega)]; exact hr, p_endsR ht, bd2_s]
  rw [show (4 : Int32) = nI 4 from rfl, show (8 : Int32) = nI 8 from rfl, nn_add, nn_add, if_pos ((nn_inb (by omega)).mpr (by omega)), if_pos ((nn_inb (by omega)).mpr (by omega)), nn_cl (by omega), nn_cl (by omega)]
  refine ⟨_, ?_, rfl, fun k hk => ?_⟩
  · refine ag_tr ?_ (ag_si (Or.inl rfl))
    refine ag_tr ?_ (ag_si (Or.inl rfl))
    refine ag_tr ?_ (ag_si (Or.inl rfl))
    refine ag_tr ?_ (ag_si (Or.inl rfl))
    refine ag_tr ?_ (ag_si (Or.inl rfl))
    refine ag_tr ?_ (ag_si (Or.inl rfl))
    refine ag_tr ?_ (ag_si (Or.inl rfl))
    exact ag_tr (ag_si (Or.inl rfl)) (ag_si (Or.inl rfl))
  · rcases (show k = 0 ∨ k = 1 ∨ k = 2 ∨ k = 3 ∨ k = 4 ∨ k = 5 ∨ k = 6 ∨ k = 7 ∨ k = 8 by omega) with rfl | rfl | rfl | rfl | rfl | rfl | rfl | rfl | rfl <;> simp [gi_si, vrS]
theorem lawE_dfl (v : Nat → Int32) : lawE v [] [-8] = v 7 ∧ lawE v [] [1] = 1 ∧ lawE v [] [-3] = v 2 ∧ lawE v [] [0] = 0 := ⟨rfl, rfl, rfl, rfl⟩
/-- a LAW of the reference, behind looking -/
theorem p_tells {F S k : Nat} {X : Xt} {ν : Mm} {pl : Int32} {v : Nat → Int32} (hF : 1000 ≤ F) (hS : gi ν 12 0 18 = nI S) (hS2 : S < 2) (hX : Xok X) (hR : RT ν S X) (hk : k < 4) (hpl : pl = lawE v [] [dfl k]) (hv : ∀ k, k < 9 → gi ν 73 0 k = v k) : ∃ ν', ag Pl ν ν' ∧ fX12_lawTells F (nI k) pl ν = some (lawE v (xb X k).1 (xb X k).2, ν') := by
  obtain ⟨ν', b1, b2⟩ := p_lawR (F := F) (pl := pl) hF hS (show 4 * S + k < 8 by omega) (hX.2.2.2 k hk) (by
    rcases hR.2.2.2.2 k hk with q | ⟨q, e⟩
    · exact Or.inl q
    · exact Or.inr ⟨q, by rw [e]; exact hpl⟩) hv
  exact ⟨ν', ag_of b1 (fun c i j h => by unfold Pe at h; unfold Pl; omega), b2⟩
