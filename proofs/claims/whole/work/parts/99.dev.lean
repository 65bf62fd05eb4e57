/-! PURE: THE INVARIANT between the class and the reference -/
def eG (n : Nat) (e : Es) : Prop := eOk e ∧ ∀ i, n ≤ i → i < 4 → (e.1 i).2 = (0, 0)
/-- the tape -/
def TA (μ ν : Mm) : Prop := ∃ L, L ≤ 2000 ∧ gi μ 7 0 0 = nI L ∧ gi ν 12 0 2 = nI L ∧ ∀ j, j < L → gi μ 29 0 j = gi ν 48 0 j ∧ (gi ν 48 0 j).toInt8.toInt32 = gi ν 48 0 j
/-- what is TOLD -/
def TO (μ ν : Mm) : Prop := ∃ K, K ≤ 20 ∧ gi μ 9 0 0 = nI K ∧ gi ν 12 0 66 = nI K ∧ ∀ j, j < K → (gi μ 41 0 j = gi ν 84 0 j ∧ 1 ≤ (gi μ 41 0 j).toInt ∧ (gi μ 41 0 j).toInt ≤ 4) ∧ gi μ 42 0 j = gi ν 85 0 j ∧ gi μ 43 0 j = gi ν 86 0 j
/-- the last things done -/
def HI (n : Nat) (μ ν : Mm) : Prop := ∃ (L nx : Nat) (hs : Nat → Es), L ≤ 40 ∧ nx < 40 ∧ gi μ 1 0 0 = nI L ∧ gi μ 1 0 1 = nI nx ∧ gi ν 12 0 50 = nI L ∧ ∀ i, i < L → EA μ ((nx + 40 - L + i) % 40) (hs i) ∧ RW (fun z => gi ν 79 0 (14 * i + z)) n (hs i) ∧ eG n (hs i)
/-- SLOTS -/
def SL (n : Nat) (μ ν : Mm) : Prop := ∀ s, s < 3 → gi μ 23 0 s = gi ν 90 0 s ∧ (gi μ 23 0 s = 0 ∨ gi μ 23 0 s = 1) ∧ (gi μ 23 0 s = 1 → ∃ e, EA μ (40 + s) e ∧ RW (fun z => gi ν 91 0 (14 * s + z)) n e ∧ eG n e)
/-! undoing: the fewest (q 0: a turn), the ways -/
def fwF : Nat → Nat → Nat → Nat
  | 0, _, _ => 0
  | f + 1, p, q => if q = 0 then 1 else if p % q = 0 then p / q else min (p / q + (1 + fwF f q (p % q))) (p / q + 1 + (1 + fwF f q (q - p % q)))
def hmF : Nat → Nat → Nat → Int32
  | 0, _, _ => 0
  | f + 1, p, q => if q = 0 then 1 else if p % q = 0 then 1 else hmF f q (p % q) + hmF f q (q - p % q)
def fw (p q : Nat) : Nat := fwF (q + 1) p q
def hm (p q : Nat) : Int32 := hmF (q + 1) p q
def fb (q r : Nat) : Nat := if r = 0 then 0 else 1 + fw q r
def wb (q r : Nat) : Int32 := if r = 0 then 1 else hm q r
/-- the reference's tables of undoing; the class's -/
def RU (ν : Mm) : Prop := ∀ t : Tg, tV t → gi ν 77 0 (enc t).toNatClampNeg = nI (fw t.1.toInt.natAbs t.2.toInt.natAbs) ∧ gi ν 78 0 (enc t).toNatClampNeg = hm t.1.toInt.natAbs t.2.toInt.natAbs
def UW (μ : Mm) : Prop := ∀ q r, 1 ≤ q → q ≤ 99 → r < q → gi μ 46 0 (q * (q - 1) / 2 + r) = nI (fb q r) ∧ gi μ 47 0 (q * (q - 1) / 2 + r) = wb q r
/-! the search: tangles in the order they are found, of which place and by which FIGURE each -/
abbrev Bl : Type := List (Tg × Nat × Nat)
def bst (X : Xt) (k f : Nat) (l : Bl) : Bl := match l[k]? with
  | none => l
  | some a => if (mkp (xv X f) (xl X f) 0 a.1).1 = true then (if l.any (fun b => b.1 == (mkp (xv X f) (xl X f) 0 a.1).2) = true then l else l ++ [((mkp (xv X f) (xl X f) 0 a.1).2, k, f)]) else l
def bsf (X : Xt) (k : Nat) : Nat → Nat → Bl → Bl
  | 0, _, l => l
  | d + 1, f, l => bsf X k d (f + 1) (bst X k f l)
def bsk (X : Xt) : Nat → Nat → Bl → Bl
  | 0, _, l => l
  | n + 1, k, l => if k < l.length then bsk X n (k + 1) (bsf X k (xm X) 0 l) else l
def bfs (X : Xt) (t : Tg) : Bl := bsk X 20000 0 [(t, 0, 0)]
/-- the class's number of a tangle -/
def cn (t : Tg) : Int32 := (t.1 + 99) * 100 + t.2
/-- the class's search has found l, and no more -/
def SQ (μ : Mm) (l : Bl) : Prop := gi μ 4 0 0 = nI l.length ∧ l.length ≤ 12016 ∧ (∀ i, (h : i < l.length) → gi μ 27 0 i = cn (l[i]).1) ∧ (∀ x, x < 19900 → gi μ 28 0 x ≠ 0 → ∃ i, ∃ h : i < l.length, cn (l[i]).1 = nI x)
def SM (μ : Mm) (l : Bl) : Prop := ∀ i, (h : i < l.length) → gi μ 28 0 (cn (l[i]).1).toNatClampNeg = if i = 0 then -1 else cn ((l.getD (l[i]).2.1 ((0, 1), 0, 0)).1) * 8 + nI (l[i]).2.2 + 1
def SE (μ : Mm) (X : Xt) : Prop := (∃ l : Bl, SQ μ l ∧ (∀ b ∈ l, tV b.1)) ∧ (gi μ 4 0 1 = -1 ∨ ∃ t, tV t ∧ gi μ 4 0 1 = cn t ∧ SQ μ (bfs X t) ∧ SM μ (bfs X t))
/-- the words -/
def kyL : List Int64 := [282078293, 91029992, 10819243, 9678763, 316351, 10340587, 377761, 11088623, 40187, 409469, 249, 399641, 107681, 311436, 11438892, 1960084, 108748, 10819228, 191610176, 12387257, 7220170, 43823245]
def KY (ν : Mm) : Prop := ∀ k, k < 22 → gj ν 54 0 k = kyL.getD k 0
def UI (u : Bool) (μ : Mm) : Prop := (u = false ∧ gi μ 11 0 11 = 0) ∨ (u = true ∧ gi μ 11 0 11 = 1 ∧ UW μ)
def SI (s : Bool) (X : Xt) (μ : Mm) : Prop := (s = false ∧ gi μ 11 0 10 = 0) ∨ (s = true ∧ gi μ 11 0 10 = 1 ∧ SE μ X)
/-- what does not speak of the evening and the things done -/
def IB (T S : Nat) (X : Xt) (u s : Bool) (μ ν : Mm) : Prop := T < 2 ∧ S < 2 ∧ Xok X ∧ gi μ 11 0 2 = nI T ∧ gi μ 11 0 3 = nI (1 - T) ∧ gi ν 12 0 18 = nI S ∧ CT μ T X ∧ RT ν S X ∧ SL (xn X) μ ν ∧ TA μ ν ∧ gi μ 2 0 1 = gi ν 12 0 17 ∧ TO μ ν ∧ RU ν ∧ KY ν ∧ UI u μ ∧ SI s X μ
def IE (n : Nat) (e : Es) (μ ν : Mm) : Prop := EC μ e ∧ RW (gi ν 75 0) n e ∧ eG n e
def Inv (u s : Bool) (μ ν : Mm) : Prop := ∃ (T S : Nat) (X : Xt) (e : Es), IB T S X u s μ ν ∧ IE (xn X) e μ ν ∧ HI (xn X) μ ν
/-! what does not matter: the class's, the reference's -/
def SC (c i j : Nat) : Prop := (c = 5 ∧ 4 ≤ i) ∨ c = 39 ∨ c = 40 ∨ (c = 6 ∧ 18 ≤ i) ∨ c = 44 ∨ c = 45 ∨ (c = 9 ∧ (j = 1 ∨ j = 2))
def SR (c i j : Nat) : Prop := c = 73 ∨ c = 74 ∨ c = 76 ∨ (80 ≤ c ∧ c ≤ 83) ∨ (87 ≤ c ∧ c ≤ 89) ∨ (c = 12 ∧ (j = 44 ∨ j = 47 ∨ (56 ≤ j ∧ j ≤ 65)))
/-- the cells of the evening and of the things done -/
def DC (c i j : Nat) : Prop := SC c i j ∨ (c = 5 ∧ i < 4) ∨ (c = 0 ∧ (j = 1 ∨ j = 2)) ∨ (c = 1 ∧ (j = 0 ∨ j = 1)) ∨ (c = 92 ∧ i < 40)
def DR (c i j : Nat) : Prop := SR c i j ∨ c = 75 ∨ c = 79 ∨ (c = 12 ∧ j = 50)
theorem EA_ag {μ μ' : Mm} {a : Nat} {e : Es} (h : ∀ j, gi μ' 92 a j = gi μ 92 a j) (q : EA μ a e) : EA μ' a e := by
  obtain ⟨q1, q2, q3⟩ := q
  refine ⟨fun i hi => ?_, (h _).trans q2, (h _).trans q3⟩
  obtain ⟨a1, a2, a3, a4⟩ := q1 i hi
  exact ⟨(h _).trans a1, (h _).trans a2, (h _).trans a3, (h _).trans a4⟩
theorem SL_ag {μ μ' ν ν' : Mm} {n : Nat} (hn : n ≤ 4) (h1 : ∀ j, gi μ' 23 0 j = gi μ 23 0 j) (h2 : ∀ a j, 40 ≤ a → gi μ' 92 a j = gi μ 92 a j) (h3 : ∀ j, gi ν' 90 0 j = gi ν 90 0 j ∧ gi ν' 91 0 j = gi ν 91 0 j) (q : SL n μ ν) : SL n μ' ν' := fun s hs => by
  obtain ⟨a1, a2, a3⟩ := q s hs
  rw [h1, (h3 s).1]
  refine ⟨a1, a2, fun w => ?_⟩
  obtain ⟨e, b1, b2, b3⟩ := a3 w
  exact ⟨e, EA_ag (fun j => h2 _ _ (by omega)) b1, RW_c hn (fun z _ => (h3 _).2) b2, b3⟩
theorem TA_ag {μ μ' ν ν' : Mm} (h1 : gi μ' 7 0 0 = gi μ 7 0 0) (h2 : gi ν' 12 0 2 = gi ν 12 0 2) (h3 : ∀ j, gi μ' 29 0 j = gi μ 29 0 j) (h4 : ∀ j, gi ν' 48 0 j = gi ν 48 0 j) (q : TA μ ν) : TA μ' ν' := by
  obtain ⟨L, a1, a2, a3, a4⟩ := q
  exact ⟨L, a1, h1.trans a2, h2.trans a3, fun j hj => by rw [h3, h4]; exact a4 j hj⟩
theorem TO_ag {μ μ' ν ν' : Mm} (h1 : gi μ' 9 0 0 = gi μ 9 0 0) (h2 : gi ν' 12 0 66 = gi ν 12 0 66) (h3 : ∀ c j, 41 ≤ c → c ≤ 43 → gi μ' c 0 j = gi μ c 0 j) (h4 : ∀ c j, 84 ≤ c → c ≤ 86 → gi ν' c 0 j = gi ν c 0 j) (q : TO μ ν) : TO μ' ν' := by
  obtain ⟨K, a1, a2, a3, a4⟩ := q
  exact ⟨K, a1, h1.trans a2, h2.trans a3, fun j hj => by rw [h3 41 j (by omega) (by omega), h3 42 j (by omega) (by omega), h3 43 j (by omega) (by omega), h4 84 j (by omega) (by omega), h4 85 j (by omega) (by omega), h4 86 j (by omega) (by omega)]; exact a4 j hj⟩
theorem SE_ag {μ μ' : Mm} {X : Xt} (h1 : gi μ' 4 0 0 = gi μ 4 0 0 ∧ gi μ' 4 0 1 = gi μ 4 0 1) (h2 : ∀ j, gi μ' 27 0 j = gi μ 27 0 j ∧ gi μ' 28 0 j = gi μ 28 0 j) (q : SE μ X) : SE μ' X := by
  have hq : ∀ l, SQ μ l → SQ μ' l := fun l ⟨b1, b2, b3, b4⟩ => ⟨h1.1.trans b1, b2, fun i hi => (h2 i).1.trans (b3 i hi), fun x hx w => b4 x hx (by rw [← (h2 x).2]; exact w)⟩
  obtain ⟨⟨l, a1, a2⟩, a3⟩ := q
  refine ⟨⟨l, hq l a1, a2⟩, ?_⟩
  rcases a3 with a3 | ⟨t, b1, b2, b3, b4⟩
  · exact Or.inl (h1.2.trans a3)
  · exact Or.inr ⟨t, b1, h1.2.trans b2, hq _ b3, fun i hi => (h2 _).2.trans (b4 i hi)⟩
theorem UI_ag {u : Bool} {μ μ' : Mm} (h1 : gi μ' 11 0 11 = gi μ 11 0 11) (h2 : ∀ j, gi μ' 46 0 j = gi μ 46 0 j ∧ gi μ' 47 0 j = gi μ 47 0 j) (q : UI u μ) : UI u μ' := by
  rcases q with ⟨a, b⟩ | ⟨a, b, c⟩
  · exact Or.inl ⟨a, h1.trans b⟩
  · exact Or.inr ⟨a, h1.trans b, fun x r g1 g2 g3 => ⟨(h2 _).1.trans (c x r g1 g2 g3).1, (h2 _).2.trans (c x r g1 g2 g3).2⟩⟩
theorem SI_ag {s : Bool} {X : Xt} {μ μ' : Mm} (h0 : gi μ' 11 0 10 = gi μ 11 0 10) (h1 : gi μ' 4 0 0 = gi μ 4 0 0 ∧ gi μ' 4 0 1 = gi μ 4 0 1) (h2 : ∀ j, gi μ' 27 0 j = gi μ 27 0 j ∧ gi μ' 28 0 j = gi μ 28 0 j) (q : SI s X μ) : SI s X μ' := by
  rcases q with ⟨a, b⟩ | ⟨a, b, c⟩
  · exact Or.inl ⟨a, h0.trans b⟩
  · exact Or.inr ⟨a, h0.trans b, SE_ag h1 h2 c⟩
/-- things done do not touch the rest -/
theorem IB_ag {T S : Nat} {X : Xt} {u s : Bool} {μ μ' ν ν' : Mm} (h1 : ag DC μ μ') (h2 : ag DR ν ν') (q : IB T S X u s μ ν) : IB T S X u s μ' ν' := by
  obtain ⟨a1, a2, a3, a4, a5, a6, a7, a8, a9, a10, a11, a12, a13, a14, a15, a16⟩ := q
  have n1 : ∀ {c i j}, ¬ DC c i j → gi μ' c i j = gi μ c i j := fun h => ag_n h1 h
  have n2 : ∀ {c i j}, ¬ DR c i j → gi ν' c i j = gi ν c i j := fun h => ag_n h2 h
  refine ⟨a1, a2, a3, (n1 (by unfold DC SC; omega)).trans a4, (n1 (by unfold DC SC; omega)).trans a5, (n2 (by unfold DR SR; omega)).trans a6, CT_ag a1 a3 h1 (fun c i j w z => by unfold Tc at w; unfold DC SC at z; omega) a7, RT_of (fun c j g1 g2 => n2 (by unfold DR SR; omega)) a8, SL_ag a3.1 (fun j => n1 (by unfold DC SC; omega)) (fun a j g => n1 (by unfold DC SC; omega)) (fun j => ⟨n2 (by unfold DR SR; omega), n2 (by unfold DR SR; omega)⟩) a9, TA_ag (n1 (by unfold DC SC; omega)) (n2 (by unfold DR SR; omega)) (fun j => n1 (by unfold DC SC; omega)) (fun j => n2 (by unfold DR SR; omega)) a10, ?_, TO_ag (n1 (by unfold DC SC; omega)) (n2 (by unfold DR SR; omega)) (fun c j g1 g2 => n1 (by unfold DC SC; omega)) (fun c j g1 g2 => n2 (by unfold DR SR; omega)) a12, fun t ht => ?_, fun k hk => (h2.2 _ _ _).trans (a14 k hk), UI_ag (n1 (by unfold DC SC; omega)) (fun j => ⟨n1 (by unfold DC SC; omega), n1 (by unfold DC SC; omega)⟩) a15, SI_ag (n1 (by unfold DC SC; omega)) ⟨n1 (by unfold DC SC; omega), n1 (by unfold DC SC; omega)⟩ (fun j => ⟨n1 (by unfold DC SC; omega), n1 (by unfold DC SC; omega)⟩) a16⟩
  · rw [n1 (by unfold DC SC; omega), n2 (by unfold DR SR; omega)]
    exact a11
  · rw [n2 (by unfold DR SR; omega), n2 (by unfold DR SR; omega)]
    exact a13 t ht
/-- what does not matter does not matter -/
theorem Inv_scr {u s : Bool} {μ μ' ν ν' : Mm} (h1 : ag SC μ μ') (h2 : ag SR ν ν') (q : Inv u s μ ν) : Inv u s μ' ν' := by
  obtain ⟨T, S, X, e, q1, ⟨q2, q3, q4⟩, q5⟩ := q
  have n1 : ∀ {c i j}, ¬ SC c i j → gi μ' c i j = gi μ c i j := fun h => ag_n h1 h
  have n2 : ∀ {c i j}, ¬ SR c i j → gi ν' c i j = gi ν c i j := fun h => ag_n h2 h
  refine ⟨T, S, X, e, IB_ag (ag_of h1 (fun _ _ _ w => Or.inl w)) (ag_of h2 (fun _ _ _ w => Or.inl w)) q1, ⟨⟨fun i hi => (sqC_ag h1 (fun j => by unfold SC; omega)).trans (q2.1 i hi), (n1 (by unfold SC; omega)).trans q2.2.1, (n1 (by unfold SC; omega)).trans q2.2.2⟩, RW_c q1.2.2.1.1 (fun z _ => n2 (by unfold SR; omega)) q3, q4⟩, ?_⟩
  obtain ⟨L, nx, hs, b1, b2, b3, b4, b5, b6⟩ := q5
  refine ⟨L, nx, hs, b1, b2, (n1 (by unfold SC; omega)).trans b3, (n1 (by unfold SC; omega)).trans b4, (n2 (by unfold SR; omega)).trans b5, fun i hi => ?_⟩
  obtain ⟨c1, c2, c3⟩ := b6 i hi
  exact ⟨EA_ag (fun j => n1 (by unfold SC; omega)) c1, RW_c q1.2.2.1.1 (fun z _ => n2 (by unfold SR; omega)) c2, c3⟩
/-! the squares and figures that are asked of -/
theorem p_in {F : Nat} {ν : Mm} {a lo hi : Int32} : fX12_in F a lo hi ν = some (if lo.toInt ≤ a.toInt ∧ a.toInt ≤ hi.toInt then 1 else 0, ν) := by
  unfold fX12_in
  by_cases h1 : a.toInt < lo.toInt
  · rw [if_pos (i_lt.mpr h1), if_neg (by omega)]
  · rw [if_neg (fun q => h1 (i_lt.mp q))]
    by_cases h2 : hi.toInt < a.toInt
    · rw [if_pos (i_lt.mpr h2), if_neg (by omega)]
    · rw [if_neg (fun q => h2 (i_lt.mp q)), if_pos (by omega)]
theorem tx_nI {T : Nat} (h : T < 2) : tx (nI T) = T := by
  rcases (show T = 0 ∨ T = 1 by omega) with rfl | rfl <;> rfl
theorem p_sq {F T S : Nat} {X : Xt} {u s : Bool} {μ ν : Mm} (q : IB T S X u s μ ν) (a : Int32) : (∃ i, i < xn X ∧ a = nI i ∧ fX11_squareAt F a μ = some (some i, μ) ∧ fX12_isSquare F a ν = some (1, ν)) ∨ (fX11_squareAt F a μ = some (none, μ) ∧ fX12_isSquare F a ν = some (0, ν)) := by
  obtain ⟨a1, a2, a3, a4, a5, a6, a7, a8, _⟩ := q
  have h4 := a3.1
  have e1 : fX12_isSquare F a ν = some (if 0 ≤ a.toInt ∧ a.toInt < xn X then 1 else 0, ν) := by
    unfold fX12_isSquare
    rw [a6, if_pos ((nn_inb (by omega)).mpr a2), nn_cl (by omega), a8.1, p_in, bd2_s, z0]
    have e2 : (nI (xn X) - 1).toInt = (xn X : Int) - 1 := by
      rw [tz_sub (by rw [nI_toInt (by omega), show (1 : Int32).toInt = 1 from rfl]; omega), nI_toInt (by omega)]
      rfl
    rw [e2]
    by_cases h : 0 ≤ a.toInt ∧ a.toInt < xn X
    · rw [if_pos h, if_pos (by omega)]
    · rw [if_neg h, if_neg (by omega)]
  unfold fX11_squareAt
  rw [a4, tx_nI a1, a7.1]
  by_cases h1 : a.toInt < 0
  · right
    rw [if_pos (i_lt0.mpr h1), e1, if_neg (by omega)]
    exact ⟨rfl, rfl⟩
  · rw [if_neg (fun w => h1 (i_lt0.mp w))]
    by_cases h2 : (xn X : Int) ≤ a.toInt
    · right
      rw [if_pos (by rw [i_le, nI_toInt (by omega)]; exact h2), e1, if_neg (by omega)]
      exact ⟨rfl, rfl⟩
    · left
      rw [if_neg (by rw [i_le, nI_toInt (by omega)]; exact h2), e1, if_pos (c := inb a _ = true) (by rw [i_inb]; omega), if_pos (by omega)]
      refine ⟨a.toInt.toNat, by omega, nn_get (by omega), ?_, rfl⟩
      rw [show a.toNatClampNeg = a.toInt.toNat from rfl]
theorem p_fig {F T S : Nat} {X : Xt} {u s : Bool} {μ ν : Mm} (q : IB T S X u s μ ν) (a : Int32) : (∃ f, f < xm X ∧ a = nI f ∧ fX11_figureAt F a μ = some (some (9 * T + 4 + f), μ) ∧ fX12_isFigure F a ν = some (1, ν)) ∨ (fX11_figureAt F a μ = some (none, μ) ∧ fX12_isFigure F a ν = some (0, ν)) := by
  obtain ⟨a1, a2, a3, a4, a5, a6, a7, a8, _⟩ := q
  have h4 := a3.2.1
  have e1 : fX12_isFigure F a ν = some (if 0 ≤ a.toInt ∧ a.toInt < xm X then 1 else 0, ν) := by
    unfold fX12_isFigure
    rw [a6, if_pos ((nn_inb (by omega)).mpr a2), nn_cl (by omega), a8.2.1, p_in, bd2_s, z0]
    have e2 : (nI (xm X) - 1).toInt = (xm X : Int) - 1 := by
      rw [tz_sub (by rw [nI_toInt (by omega), show (1 : Int32).toInt = 1 from rfl]; omega), nI_toInt (by omega)]
      rfl
    rw [e2]
    by_cases h : 0 ≤ a.toInt ∧ a.toInt < xm X
    · rw [if_pos h, if_pos (by omega)]
    · rw [if_neg h, if_neg (by omega)]
  unfold fX11_figureAt
  rw [a4, tx_nI a1, a7.2.1]
  by_cases h1 : a.toInt < 0
  · right
    rw [if_pos (i_lt0.mpr h1), e1, if_neg (by omega)]
    exact ⟨rfl, rfl⟩
  · rw [if_neg (fun w => h1 (i_lt0.mp w))]
    by_cases h2 : (xm X : Int) ≤ a.toInt
    · right
      rw [if_pos (by rw [i_le, nI_toInt (by omega)]; exact h2), e1, if_neg (by omega)]
      exact ⟨rfl, rfl⟩
    · left
      rw [if_neg (by rw [i_le, nI_toInt (by omega)]; exact h2), e1, if_pos (c := inb a _ = true) (by rw [i_inb]; omega), if_pos (by omega)]
      refine ⟨a.toInt.toNat, by omega, nn_get (by omega), ?_, rfl⟩
      rw [show a.toNatClampNeg = a.toInt.toNat from rfl]
