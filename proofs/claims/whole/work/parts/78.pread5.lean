/-! PURE: read, the class takes TOKENS and E's -/
def Gk (K : Nat → Tk) (N : Nat) : Prop := Sts K N ∧ (∀ t, (K t).1 ≤ 34) ∧ ∀ t, (K t).1 = 23 → ∃ n, n < 10000 ∧ (K t).2.2.1 = nI n
def LC (T : Nat) (K : Nat → Tk) (N t : Nat) (μ : Mm) : Prop := gi μ 2 0 0 = 0 ∧ gi μ 2 0 3 = nI T ∧ TKC K N μ ∧ AtC K t μ ∧ t ≤ N
def DdC (T : Nat) (e : Int32 × Int32) (μ : Mm) : Prop := gi μ 2 0 0 = e.1 ∧ gi μ 2 0 1 = e.2 ∧ gi μ 2 0 3 = nI T ∧ (e.1 = 1 ∨ e.1 = 2) ∧ ∃ P, P ≤ 408 ∧ gi μ 8 T 5 = nI P
def RC (T : Nat) (K : Nat → Tk) (N : Nat) (r : Sum (Int32 × Int32) Nat) (μ : Mm) : Prop := match r with
  | Sum.inl e => DdC T e μ
  | Sum.inr t => LC T K N t μ
def FA (c _ j : Nat) : Prop := (c = 7 ∧ 1 ≤ j) ∨ (c = 2 ∧ (j = 0 ∨ j = 1))
def Q7 (c : Nat) : Prop := c = 7
theorem dead_n {T : Nat} {e : Int32 × Int32} {μ : Mm} (h : DdC T e μ) : ¬ gi μ 2 0 0 = 0 := by
  rw [h.1]
  rcases h.2.2.2.1 with q | q <;> rw [q] <;> decide
theorem p_failC {F T P : Nat} {f : Int32} {μ : Mm} (h : gi μ 2 0 0 = 0) (h3 : gi μ 2 0 3 = nI T) (hf : f = 1 ∨ f = 2) (hP : P ≤ 408) (h5 : gi μ 8 T 5 = nI P) : ∃ μ', fX2_fail F f μ = some μ' ∧ fr FA Q7 μ μ' ∧ DdC T (f, gi μ 7 0 3) μ' := by
  unfold fX2_fail
  rw [if_pos h]
  refine ⟨_, rfl, fr_tr (fr_si (Or.inr ⟨rfl, Or.inl rfl⟩)) (fr_si (Or.inr ⟨rfl, Or.inr rfl⟩)), ?_, ?_, ?_, hf, P, hP, ?_⟩
  · rw [gi_ne (by omega), gi_eq]
  · rw [gi_eq, gi_ne (by omega)]
  · rw [gi_ne (by omega), gi_ne (by omega), h3]
  · rw [gi_ne (by omega), gi_ne (by omega), h5]
theorem p_failCd {F T : Nat} {e : Int32 × Int32} {f : Int32} {μ : Mm} (h : DdC T e μ) : fX2_fail F f μ = some μ := by
  unfold fX2_fail
  rw [if_neg (dead_n h)]
theorem p_takeC {F T N t k P : Nat} {K : Nat → Tk} {μ : Mm} (g : Gk K N) (h : LC T K N t μ) (hk : k ≤ 32) (hP : P ≤ 408) (h5 : gi μ 8 T 5 = nI P) : ∃ μ', fX2_take F (nI k) μ = some μ' ∧ fr FA Q7 μ μ' ∧ RC T K N (adv K t k) μ' := by
  obtain ⟨a1, a2, a3, a4, a5⟩ := h
  have hN := g.1.1
  have k34 := g.2.1 t
  unfold fX2_take fX2_isAt adv
  rw [if_pos a1, a4.2.1]
  by_cases y : tkd K t = k
  · have y' : (K t).1 = k := y
    rw [y', if_pos rfl, bd2_s, if_neg n1_0, a4.1, if_pos y]
    by_cases z : t = 400
    · rw [if_neg (by rw [z]; decide), if_pos z]
      obtain ⟨μ', b1, b2, b3⟩ := p_failC (F := F) (f := 2) a1 a2 (Or.inr rfl) hP h5
      rw [b1, bd1_s]
      exact ⟨μ', rfl, b2, by rw [a4.2.2.1] at b3; exact b3⟩
    · have tN : t + 1 ≤ N := by
        rcases Nat.lt_or_ge t N with q | q
        · exact q
        · have e : t = N := by omega
          rcases g.1.2.2 with w | w
          · rw [← e] at w
            omega
          · omega
      rw [if_pos (by rw [show (400 : Int32) = nI 400 from rfl, nn_lt (by omega) (by omega)]; omega), nn_s, if_neg z]
      obtain ⟨μ', b1, b2, b3⟩ := p_tuC (F := F) (t := t + 1) (N := N) (K := K) (μ := μ) hN tN a3
      rw [b1, bd1_s]
      refine ⟨μ', rfl, fr_of b2 (fun c i j q => Or.inl q) (fun c q => q), (fr_n b2 (by unfold Fk7; omega)).trans a1, (fr_n b2 (by unfold Fk7; omega)).trans a2, fun z hz => ?_, b3, tN⟩
      obtain ⟨c1, c2, c3, c4⟩ := a3 z hz
      exact ⟨(fr_n b2 (by unfold Fk7; omega)).trans c1, (fr_n b2 (by unfold Fk7; omega)).trans c2, fun q => (fr_n b2 (by unfold Fk7; omega)).trans (c3 q), fun q => (fr_m b2 (by omega)).trans (c4 q)⟩
  · rw [if_neg (show ¬ nI (K t).1 = nI k by rw [nn_inj (by omega) (by omega)]; exact y), bd2_s, if_pos rfl, if_neg y]
    obtain ⟨μ', b1, b2, b3⟩ := p_failC (F := F) (f := 1) a1 a2 (Or.inl rfl) hP h5
    rw [b1, bd1_s]
    exact ⟨μ', rfl, b2, by rw [a4.2.2.1] at b3; exact b3⟩
theorem p_takeCd {F T : Nat} {e : Int32 × Int32} {k : Int32} {μ : Mm} (h : DdC T e μ) : fX2_take F k μ = some μ := by
  unfold fX2_take fX2_isAt
  rw [if_neg (dead_n h), bd2_s, if_pos rfl, p_failCd h, bd1_s]
theorem p_addC {F T P : Nat} {x : Int32} {μ : Mm} (h5 : gi μ 8 T 5 = nI P) (hP : P < 408) : fX8_addCode F T x μ = some (si (si μ 37 T P x) 8 T 5 (nI (P + 1))) := by
  unfold fX8_addCode
  rw [h5, if_neg (by rw [show (408 : Int32) = nI 408 from rfl, nn_le (by omega) (by omega)]; omega), if_pos ((nn_inb (by omega)).mpr hP), nn_cl (by omega), gi_ne (by omega), h5, nn_s]
def FW (c _ j : Nat) : Prop := c = 24 ∨ (c = 2 ∧ (j = 7 ∨ j = 8))
def FL (T c i j : Nat) : Prop := (c = 2 ∧ j = 7) ∨ (c = 37 ∧ i = T) ∨ (c = 8 ∧ i = T ∧ j = 5)
def FE (T c i j : Nat) : Prop := (c = 2 ∧ (j = 0 ∨ j = 1 ∨ j = 7 ∨ j = 8)) ∨ (c = 7 ∧ 1 ≤ j) ∨ c = 24 ∨ (c = 37 ∧ i = T) ∨ (c = 8 ∧ i = T ∧ j = 5)
/-- the class on its way through an E -/
def XC (T P : Nat) (W : List Nat) (o : Nat) (out : List Int32) (μ : Mm) : Prop := gi μ 2 0 7 = nI W.length ∧ stk μ 24 0 (W.map nI) ∧ gi μ 2 0 8 = nI o ∧ gi μ 2 0 3 = nI T ∧ gi μ 8 T 5 = nI (P + out.length) ∧ seg μ 37 T P out
theorem XC_fr {P' : Nat → Nat → Nat → Prop} {Q : Nat → Prop} {T P o : Nat} {W : List Nat} {out : List Int32} {μ μ' : Mm} (h : fr P' Q μ μ') (h2 : ∀ j, (j = 3 ∨ j = 7 ∨ j = 8) → ¬ P' 2 0 j) (h24 : ∀ j, ¬ P' 24 0 j) (h8 : ¬ P' 8 T 5) (h37 : ∀ j, ¬ P' 37 T j) (q : XC T P W o out μ) : XC T P W o out μ' := by
  obtain ⟨a1, a2, a3, a4, a5, a6⟩ := q
  exact ⟨(fr_n h (h2 _ (by omega))).trans a1, fun k hk => (fr_n h (h24 _)).trans (a2 k hk), (fr_n h (h2 _ (by omega))).trans a3, (fr_n h (h2 _ (by omega))).trans a4, (fr_n h h8).trans a5, fun k hk => (fr_n h (h37 _)).trans (a6 k hk)⟩
theorem XC_FA {T P o : Nat} {W : List Nat} {out : List Int32} {μ μ' : Mm} (h : fr FA Q7 μ μ') (q : XC T P W o out μ) : XC T P W o out μ' := XC_fr h (fun j hj => by unfold FA; omega) (fun j => by unfold FA; omega) (by unfold FA; omega) (fun j => by unfold FA; omega) q
def KpC (T P : Nat) (μ μ' : Mm) : Prop := fr (FE T) Q7 μ μ' ∧ ∀ j, j < P → gi μ' 37 T j = gi μ 37 T j
theorem KpC_tr {T P : Nat} {μ μ' μ'' : Mm} (h : KpC T P μ μ') (h' : KpC T P μ' μ'') : KpC T P μ μ'' := ⟨fr_tr h.1 h'.1, fun j hj => (h'.2 j hj).trans (h.2 j hj)⟩
theorem KpC_FA {T P : Nat} {μ μ' : Mm} (h : fr FA Q7 μ μ') : KpC T P μ μ' := ⟨fr_of h (fun c i j q => by unfold FA at q; unfold FE; omega) (fun c q => q), fun j hj => fr_n h (by unfold FA; omega)⟩
theorem KpC_FW {T P : Nat} {μ μ' : Mm} (h : fr FW Q7 μ μ') : KpC T P μ μ' := ⟨fr_of h (fun c i j q => by unfold FW at q; unfold FE; omega) (fun c q => q), fun j hj => fr_n h (by unfold FW; omega)⟩
theorem KpC_FL {T P : Nat} {μ μ' : Mm} (h : fr (FL T) Q7 μ μ') (hj : ∀ j, j < P → gi μ' 37 T j = gi μ 37 T j) : KpC T P μ μ' := ⟨fr_of h (fun c i j q => by unfold FL at q; unfold FE; omega) (fun c q => q), hj⟩
theorem LC_g {P : Nat → Nat → Nat → Prop} {T N t : Nat} {K : Nat → Tk} {μ μ' : Mm} (h : fr P Q7 μ μ') (hj : gj μ' 7 0 5 = gj μ 7 0 5) (h2 : ¬ P 2 0 0 ∧ ¬ P 2 0 3) (h7 : ∀ j, 1 ≤ j → ¬ P 7 0 j) (h30 : ∀ c j, 30 ≤ c → c ≤ 32 → ¬ P c 0 j) (q : LC T K N t μ) : LC T K N t μ' := by
  obtain ⟨a1, a2, a3, ⟨b1, b2, b3, b4, b5⟩, a5⟩ := q
  refine ⟨(fr_n h h2.1).trans a1, (fr_n h h2.2).trans a2, fun i hi => ?_, ⟨(fr_n h (h7 _ (by omega))).trans b1, (fr_n h (h7 _ (by omega))).trans b2, (fr_n h (h7 _ (by omega))).trans b3, fun q => (fr_n h (h7 _ (by omega))).trans (b4 q), fun q => hj.trans (b5 q)⟩, a5⟩
  obtain ⟨c1, c2, c3, c4⟩ := a3 i hi
  exact ⟨(fr_n h (h30 _ _ (by omega) (by omega))).trans c1, (fr_n h (h30 _ _ (by omega) (by omega))).trans c2, fun q => (fr_n h (h30 _ _ (by omega) (by omega))).trans (c3 q), fun q => (fr_m h (by unfold Q7; omega)).trans (c4 q)⟩
theorem LC_FL {T T' N t : Nat} {K : Nat → Tk} {μ μ' : Mm} (h : fr (FL T') Q7 μ μ') (h7 : gj μ' 7 0 5 = gj μ 7 0 5) (q : LC T K N t μ) : LC T K N t μ' := LC_g h h7 ⟨by unfold FL; omega, by unfold FL; omega⟩ (fun j hj => by unfold FL; omega) (fun c j h1 h2 => by unfold FL; omega) q
theorem LC_FW {T N t : Nat} {K : Nat → Tk} {μ μ' : Mm} (h : fr FW Q7 μ μ') (h7 : gj μ' 7 0 5 = gj μ 7 0 5) (q : LC T K N t μ) : LC T K N t μ' := LC_g h h7 ⟨by unfold FW; omega, by unfold FW; omega⟩ (fun j hj => by unfold FW; omega) (fun c j h1 h2 => by unfold FW; omega) q
theorem DdC_n {T : Nat} {e : Int32 × Int32} {μ μ' : Mm} {P' : Nat → Nat → Nat → Prop} {Q : Nat → Prop} (h : fr P' Q μ μ') (h2 : ∀ j, (j = 0 ∨ j = 1 ∨ j = 3) → ¬ P' 2 0 j) (h5 : ∃ P, P ≤ 408 ∧ gi μ' 8 T 5 = nI P) (q : DdC T e μ) : DdC T e μ' := ⟨(fr_n h (h2 _ (by omega))).trans q.1, (fr_n h (h2 _ (by omega))).trans q.2.1, (fr_n h (h2 _ (by omega))).trans q.2.2.1, q.2.2.2.1, h5⟩
/-- what waits comes out -/
theorem p_relC {F T P lvl : Nat} {s : Bool} (hT : T < 2) (hs : (s = true ∧ lvl = 28) ∨ (s = false ∧ lvl = 26)) : ∀ (W : List Nat) (n : Nat) (out : List Int32) (μ : Mm), W.length < n → (∀ w ∈ W, 26 ≤ w ∧ w ≤ 31 ∧ w ≠ 30) → W.length ≤ 32 → gi μ 2 0 7 = nI W.length → stk μ 24 0 (W.map nI) → gi μ 2 0 3 = nI T → gi μ 8 T 5 = nI (P + out.length) → P + out.length + W.length ≤ 408 → seg μ 37 T P out → ∃ μ', fX2_releaseDownTo_L15 F n (nI lvl) (nI W.length - 1) μ = some μ' ∧ fr (FL T) Q7 μ μ' ∧ gj μ' 7 0 5 = gj μ 7 0 5 ∧ (∀ j, j < P → gi μ' 37 T j = gi μ 37 T j) ∧ gi μ' 2 0 7 = nI (relS s W out).1.length ∧ stk μ' 24 0 ((relS s W out).1.map nI) ∧ gi μ' 8 T 5 = nI (P + (relS s W out).2.length) ∧ seg μ' 37 T P (relS s W out).2
  | _, 0, _, _, h, _, _, _, _, _, _, _, _ => absurd h (Nat.not_lt_zero _)
  | [], n + 1, out, μ, h1, hw, h32, h7, hst, h3, h5, hP, hsg => by
    rw [fX2_releaseDownTo_L15, if_pos (by rw [List.length_nil]; decide)]
    exact ⟨μ, rfl, fr_rfl, rfl, fun _ _ => rfl, h7, hst, h5, hsg⟩
  | w :: W, n + 1, out, μ, h1, hw, h32, h7, hst, h3, h5, hP, hsg => by
    simp only [List.length_cons] at h1 h32 hP
    have w1 := hw w List.mem_cons_self
    have ht : gi μ 24 0 W.length = nI w := by
      have := stk_top (st := W.map nI) (x := nI w) hst
      rw [List.length_map] at this
      exact this
    rw [fX2_releaseDownTo_L15, List.length_cons, nn_1m, if_neg (nn_neg (by omega)), if_pos ((nn_inb (by omega)).mpr (by omega)), nn_cl (by omega), ht]
    unfold relS
    by_cases y : w = 31
    · rw [if_pos (by rw [y]; rfl), if_pos (Or.inl y)]
      exact ⟨μ, rfl, fr_rfl, rfl, fun _ _ => rfl, h7, hst, h5, hsg⟩
    · rw [if_neg (show ¬ nI w = 31 by rw [show (31 : Int32) = nI 31 from rfl, nn_inj (by omega) (by omega)]; exact y)]
      have nb : lvl ≤ w → ¬ (w = 31 ∨ (s = true ∧ w < 28)) := fun q => by
        rcases hs with ⟨a, b⟩ | ⟨a, b⟩
        · omega
        · rw [a]
          simp
          exact y
      have pb : ¬ lvl ≤ w → (w = 31 ∨ (s = true ∧ w < 28)) := fun q => by
        rcases hs with ⟨a, b⟩ | ⟨a, b⟩
        · exact Or.inr ⟨a, by omega⟩
        · omega
      by_cases z : lvl ≤ w
      · rw [if_pos ((nn_le (by omega) (by omega)).mpr z), if_neg (nb z), h3, tx_nI hT, show ((-10) - (nI w - 26) : Int32) = scd w from rfl, p_addC h5 (by omega), bd1_s]
        have f1 : fr (FL T) Q7 μ (si (si (si μ 37 T (P + out.length) (scd w)) 8 T 5 (nI (P + out.length + 1))) 2 0 7 (nI W.length)) := fr_tr (fr_tr (fr_si (Or.inr (Or.inl ⟨rfl, rfl⟩))) (fr_si (Or.inr (Or.inr ⟨rfl, rfl, rfl⟩)))) (fr_si (Or.inl ⟨rfl, rfl⟩))
        obtain ⟨μ', r1, r2, r3, r4, r5⟩ := p_relC (F := F) (P := P) hT hs W n (out ++ [scd w]) _ (by omega) (fun z hz => hw z (List.mem_cons_of_mem _ hz)) (by omega) gi_eq (fun k hk => (gi_ne (by omega)).trans ((gi_ne (by omega)).trans ((gi_ne (by omega)).trans (stk_pop (st := W.map nI) (x := nI w) hst k hk)))) ((fr_n f1 (by unfold FL; omega)).trans h3) (by
          rw [gi_ne (by omega), gi_eq, List.length_append, List.length_singleton, Nat.add_assoc]) (by
          simp only [List.length_append, List.length_cons, List.length_nil]
          omega) (by
          rw [seg_app]
          refine ⟨fun k hk => ?_, fun k hk => ?_⟩
          · rw [gi_ne (by omega), gi_ne (by omega), gi_ne (by omega)]
            exact hsg k hk
          · simp only [List.length_singleton] at hk
            obtain rfl : k = 0 := by omega
            rw [gi_ne (by omega), gi_ne (by omega), Nat.add_zero, gi_eq]
            rfl)
        refine ⟨μ', ?_, fr_tr f1 r2, r3, fun j hj => (r4 j hj).trans ((gi_ne (by omega)).trans ((gi_ne (by omega)).trans (gi_ne (by omega)))), r5⟩
        rw [Int32.sub_eq_add_neg] at r1
        exact r1
      · rw [if_neg (fun q => z ((nn_le (by omega) (by omega)).mp q)), if_pos (pb z)]
        exact ⟨μ, rfl, fr_rfl, rfl, fun _ _ => rfl, h7, hst, h5, hsg⟩
theorem p_relX {F T P lvl o : Nat} {s : Bool} {W : List Nat} {out : List Int32} {μ : Mm} (hF : 1000 ≤ F) (hT : T < 2) (hs : (s = true ∧ lvl = 28) ∨ (s = false ∧ lvl = 26)) (hw : ∀ w ∈ W, 26 ≤ w ∧ w ≤ 31 ∧ w ≠ 30) (h32 : W.length ≤ 32) (hP : P + out.length + W.length ≤ 408) (h : XC T P W o out μ) : ∃ μ', fX2_releaseDownTo F (nI lvl) μ = some μ' ∧ fr (FL T) Q7 μ μ' ∧ gj μ' 7 0 5 = gj μ 7 0 5 ∧ (∀ j, j < P → gi μ' 37 T j = gi μ 37 T j) ∧ XC T P (relS s W out).1 o (relS s W out).2 μ' := by
  obtain ⟨a1, a2, a3, a4, a5, a6⟩ := h
  unfold fX2_releaseDownTo
  rw [a1, show (32 : Int32) = nI 32 from rfl, nn_mn (by omega) (by omega), Nat.min_eq_left h32]
  obtain ⟨μ', r1, r2, r3, r4, r5, r6, r7, r8⟩ := p_relC (F := F) (P := P) hT hs W F out μ (by omega) hw h32 a1 a2 a4 a5 hP a6
  exact ⟨μ', r1, r2, r3, r4, r5, r6, (fr_n r2 (by unfold FL; omega)).trans a3, (fr_n r2 (by unfold FL; omega)).trans a4, r7, r8⟩
theorem p_addW {F T P o k : Nat} {W : List Nat} {out : List Int32} {μ : Mm} (h32 : W.length < 32) (h : XC T P W o out μ) : ∃ μ', fX2_addWaiting F (nI k) μ = some μ' ∧ fr FW Q7 μ μ' ∧ gj μ' 7 0 5 = gj μ 7 0 5 ∧ XC T P (k :: W) o out μ' := by
  obtain ⟨a1, a2, a3, a4, a5, a6⟩ := h
  unfold fX2_addWaiting
  rw [a1, if_neg (by rw [show (32 : Int32) = nI 32 from rfl, nn_le (by omega) (by omega)]; omega), if_pos ((nn_inb (by omega)).mpr h32), nn_cl (by omega), gi_ne (by omega), a1, nn_s]
  refine ⟨_, rfl, fr_tr (fr_si (Or.inl rfl)) (fr_si (Or.inr ⟨rfl, Or.inl rfl⟩)), rfl, ?_, ?_, ?_, ?_, ?_, ?_⟩
  · rw [gi_eq, List.length_cons]
  · have q := stk_push (x := nI k) a2
    rw [List.length_map] at q
    exact fun j hj => (gi_ne (by omega)).trans (q j hj)
  · rw [gi_ne (by omega), gi_ne (by omega), a3]
  · rw [gi_ne (by omega), gi_ne (by omega), a4]
  · rw [gi_ne (by omega), gi_ne (by omega), a5]
  · exact fun j hj => (gi_ne (by omega)).trans ((gi_ne (by omega)).trans (a6 j hj))
