/-! PURE: read, a whole row -/
def QRow (c : Nat) : Prop := c = 7 ∨ c = 36
def Q55 (c : Nat) : Prop := c = 55
def FRo (T r c i j : Nat) : Prop := FMv r c i j ∨ (c = 8 ∧ i = T ∧ j = 7) ∨ (c = 5 ∧ i = 7)
def FRp (q x c i j : Nat) : Prop := FMr q c i j ∨ (c = 12 ∧ j = 20) ∨ (c = 61 ∧ j = x)
theorem LC_gq {P : Nat → Nat → Nat → Prop} {Q : Nat → Prop} {T N t : Nat} {K : Nat → Tk} {μ μ' : Mm} (h : fr P Q μ μ') (hj : gj μ' 7 0 5 = gj μ 7 0 5) (h33 : ¬ Q 33) (h2 : ¬ P 2 0 0 ∧ ¬ P 2 0 3) (h7 : ∀ j, 1 ≤ j → ¬ P 7 0 j) (h30 : ∀ c j, 30 ≤ c → c ≤ 32 → ¬ P c 0 j) (q : LC T K N t μ) : LC T K N t μ' := by
  obtain ⟨a1, a2, a3, ⟨b1, b2, b3, b4, b5⟩, a5⟩ := q
  refine ⟨(fr_n h h2.1).trans a1, (fr_n h h2.2).trans a2, fun i hi => ?_, ⟨(fr_n h (h7 _ (by omega))).trans b1, (fr_n h (h7 _ (by omega))).trans b2, (fr_n h (h7 _ (by omega))).trans b3, fun q => (fr_n h (h7 _ (by omega))).trans (b4 q), fun q => hj.trans (b5 q)⟩, a5⟩
  obtain ⟨c1, c2, c3, c4⟩ := a3 i hi
  exact ⟨(fr_n h (h30 _ _ (by omega) (by omega))).trans c1, (fr_n h (h30 _ _ (by omega) (by omega))).trans c2, fun q => (fr_n h (h30 _ _ (by omega) (by omega))).trans (c3 q), fun q => (fr_m h h33).trans (c4 q)⟩
theorem LR_frq {P : Nat → Nat → Nat → Prop} {Q : Nat → Prop} {N t : Nat} {K : Nat → Tk} {ν ν' : Mm} (h : fr P Q ν ν') (h53 : ¬ Q 53) (h12 : ¬ P 12 0 13 ∧ ¬ P 12 0 11) (h50 : ∀ c j, 50 ≤ c → c ≤ 52 → ¬ P c 0 j) (q : LR K N t ν) : LR K N t ν' := by
  obtain ⟨a1, a2, a3, a4⟩ := q
  refine ⟨(fr_n h h12.1).trans a1, fun i hi => ?_, (fr_n h h12.2).trans a3, a4⟩
  obtain ⟨c1, c2, c3, c4⟩ := a2 i hi
  exact ⟨(fr_n h (h50 _ _ (by omega) (by omega))).trans c1, (fr_n h (h50 _ _ (by omega) (by omega))).trans c2, fun q => (fr_n h (h50 _ _ (by omega) (by omega))).trans (c3 q), fun q => (fr_m h h53).trans (c4 q)⟩
def nmT (K : Nat → Tk) (t : Nat) : Int64 := (K t).2.2.2
def rowg (K : Nat → Tk) (t1 : Nat) : Sum (Int32 × Int32) (Nat × List (Int32 × Int32) × List Int32) := sbd (adv K t1 22) fun t2 => sbd (mvg K 8 t2) fun r => sbd (adv K r.1 24) fun t3 => Sum.inr (t3, r.2.1, r.2.2)
def dTw (nms : List Int64) (x : Int64) (D : Int32 × Int32) (p : Int32) : Int32 × Int32 := if x ∈ nms then lm D (3, p) else D
def dKn (b : Bool) (D : Int32 × Int32) (p : Int32) : Int32 × Int32 := if b = true then lm D (6, p) else D
def rowD (K : Nat → Tk) (nms : List Int64) (sq : Bool) (D : Int32 × Int32) (t1 : Nat) (ms : List (Int32 × Int32)) (ws : List Int32) : Int32 × Int32 := dKn (sq && !(mkl ms (0, 1)).isSome) (dTw nms (nmT K t1) (lmW D ws) (pl K t1)) (pl K t1)
theorem k36 : (1 ≤ ((3 : Int32)).toInt ∧ (3 : Int32).toInt ≤ 7) ∧ 1 ≤ ((6 : Int32)).toInt ∧ (6 : Int32).toInt ≤ 7 := by decide
theorem dTw_dvd {nms : List Int64} {x : Int64} {D : Int32 × Int32} {p : Int32} (h : dvd D) : dvd (dTw nms x D p) := by
  unfold dTw
  split
  · exact lm_dvd h k36.1
  · exact h
theorem rowD_dvd {K : Nat → Tk} {nms : List Int64} {sq : Bool} {D : Int32 × Int32} {t1 : Nat} {ms : List (Int32 × Int32)} {ws : List Int32} (h : dvd D) : dvd (rowD K nms sq D t1 ms ws) := by
  unfold rowD dKn
  split
  · exact lm_dvd (dTw_dvd (lmW_dvd ws D h)) k36.2
  · exact dTw_dvd (lmW_dvd ws D h)
theorem rowD_0 {K : Nat → Tk} {nms : List Int64} {sq : Bool} {D : Int32 × Int32} {t1 : Nat} {ms : List (Int32 × Int32)} {ws : List Int32} (h : dvd D) (e : (rowD K nms sq D t1 ms ws).1 = 0) : D.1 = 0 ∧ ws = [] ∧ (sq = true → (mkl ms (0, 1)).isSome = true) := by
  have h1 := lmW_dvd ws D h
  unfold rowD dKn at e
  split at e
  · exact absurd e (lm_n0 (dTw_dvd h1) k36.2)
  · rename_i nb
    unfold dTw at e
    split at e
    · exact absurd e (lm_n0 h1 k36.1)
    · have := lmW_n0 ws D h e
      refine ⟨this.2, this.1, fun hs => ?_⟩
      rw [hs] at nb
      cases hm : (mkl ms (0, 1)).isSome with
      | true => rfl
      | false =>
        rw [hm] at nb
        exact absurd rfl nb
theorem p_toldL {F T L : Nat} {x : Int64} {μ : Mm} (hL : L ≤ 9) (h7 : gi μ 8 T 7 = nI L) : ∀ (l : List Int64) (n i : Nat), i + l.length = L → l.length < n → (∀ z, (h : z < l.length) → gj μ 36 T (i + z) = l[z]) → fX8_isTold_L2 F n T x (nI i) μ = some (if x ∈ l then 1 else 0, μ)
  | _, 0, _, _, h, _ => absurd h (Nat.not_lt_zero _)
  | [], n + 1, i, h1, h2, hl => by
    rw [fX8_isTold_L2, h7, if_pos (by simp only [List.length_nil] at h1; rw [nn_le (by omega) (by omega)]; omega), if_neg (c := x ∈ ([] : List Int64)) List.not_mem_nil]
  | y :: l, n + 1, i, h1, h2, hl => by
    simp only [List.length_cons] at h1 h2
    have h0 : gj μ 36 T i = y := hl 0 (by simp)
    rw [fX8_isTold_L2, h7, if_neg (by rw [nn_le (by omega) (by omega)]; omega), if_pos ((nn_inb (by omega)).mpr (by omega)), nn_cl (by omega), h0]
    by_cases c : y = x
    · rw [if_pos (lg0.mpr c), if_pos (c := x ∈ y :: l) (by rw [c]; exact List.mem_cons_self)]
    · rw [if_neg (fun q => c (lg0.mp q)), nn_s, p_toldL hL h7 l n (i + 1) (by omega) (by omega) (fun z hz => by
        have q := hl (z + 1) (by simp; omega)
        rw [show i + (z + 1) = i + 1 + z by omega] at q
        exact q)]
      by_cases m : x ∈ l
      · rw [if_pos m, if_pos (c := x ∈ y :: l) (List.mem_cons_of_mem _ m)]
      · rw [if_neg m, if_neg (c := x ∈ y :: l) (fun q => by
          rcases List.mem_cons.mp q with q | q
          · exact c q.symm
          · exact m q)]
/-- the names, both sides -/
def NmC (T : Nat) (nms : List Int64) (μ : Mm) : Prop := gi μ 8 T 7 = nI nms.length ∧ ∀ z, (h : z < nms.length) → gj μ 36 T z = nms[z]
def NmR (nms : List Int64) (ν : Mm) : Prop := gi ν 12 0 20 = nI nms.length ∧ ∀ z, (h : z < nms.length) → gj ν 55 0 z = nms[z]
theorem nm_app {l : List Int64} {x : Int64} {f f' : Nat → Int64} (h : ∀ z, (h : z < l.length) → f z = l[z]) (h1 : f' l.length = x) (h2 : ∀ z, z < l.length → f' z = f z) : ∀ z, (h : z < (l ++ [x]).length) → f' z = (l ++ [x])[z] := fun z hz => by
  simp only [List.length_append, List.length_cons, List.length_nil] at hz
  by_cases y : z < l.length
  · rw [List.getElem_append_left y, h2 z y]
    exact h z y
  · obtain rfl : z = l.length := by omega
    rw [List.getElem_append_right (Nat.le_refl _)]
    simp only [Nat.sub_self, List.getElem_cons_zero]
    exact h1
def RoC (T : Nat) (K : Nat → Tk) (N r : Nat) (nms : List Int64) (sq : Bool) (D : Int32 × Int32) (t1 : Nat) (z : Sum (Int32 × Int32) (Nat × List (Int32 × Int32) × List Int32)) (μ' : Mm) : Prop := match z with
  | Sum.inl e => DdC T e μ'
  | Sum.inr s => LC T K N s.1 μ' ∧ RwC μ' r s.2.1 ∧ gi μ' 2 0 4 = (rowD K nms sq D t1 s.2.1 s.2.2).1 ∧ gi μ' 2 0 5 = (rowD K nms sq D t1 s.2.1 s.2.2).2 ∧ NmC T (nms ++ [nmT K t1]) μ'
/-- behind the last MOVE -/
theorem p_79C {F T N P r t1 t3 : Nat} {K : Nat → Tk} {nms : List Int64} {sq : Bool} {wd : Int32} {D : Int32 × Int32} {ms : List (Int32 × Int32)} {ws : List Int32} {μ : Mm} (hF : 1000 ≤ F) (hT : T < 2) (g : Gk K N) (hP : P ≤ 408) (hw : wd = if sq = true then 0 else 1) (hl : LC T K N t3 μ) (hr : RwC μ r ms) (hm : ∀ w ∈ ms, mvw w) (h4 : gi μ 2 0 4 = (lmW D ws).1) (h5 : gi μ 2 0 5 = (lmW D ws).2) (h8 : gi μ 8 T 5 = nI P) (hn : NmC T nms μ) (hn9 : nms.length < 9) : ∃ μ', fX2_readRowS_L79 F wd r (pl K t1) (nmT K t1) μ = some μ' ∧ fr (FRo T r) QRow μ μ' ∧ RoC T K N r nms sq D t1 (sbd (adv K t3 24) fun t4 => Sum.inr (t4, ms, ws)) μ' := by
  obtain ⟨μ1, a1, a2, a3⟩ := p_takeC (F := F) (k := 24) g hl (by omega) hP h8
  have f1 : fr (FRo T r) QRow μ μ1 := fr_of a2 (fun c i j q => Or.inl (Or.inl q)) (fun c q => Or.inl q)
  unfold fX2_readRowS_L79
  rw [show (24 : Int32) = nI 24 from rfl, a1, bd1_s]
  cases h1 : adv K t3 24 with
  | inl e =>
    rw [h1] at a3
    rw [if_neg (dead_n a3)]
    exact ⟨μ1, rfl, f1, a3⟩
  | inr t4 =>
  rw [h1] at a3
  rw [if_pos a3.1, sbd_r]
  have r1 := RwC_fr a2 (fun c j hc => by unfold FA; omega) hr
  have b4 : gi μ1 2 0 4 = (lmW D ws).1 := (fr_n a2 (by unfold FA; omega)).trans h4
  have b5 : gi μ1 2 0 5 = (lmW D ws).2 := (fr_n a2 (by unfold FA; omega)).trans h5
  have b7 : gi μ1 8 T 7 = nI nms.length := (fr_n a2 (by unfold FA; omega)).trans hn.1
  have b36 : ∀ z, (h : z < nms.length) → gj μ1 36 T z = nms[z] := fun z hz => (fr_m a2 (by unfold Q7; omega)).trans (hn.2 z hz)
  -- the name
  have nameStep : ∃ μ2, fX2_suspectName F (nmT K t1) (pl K t1) μ1 = some μ2 ∧ fr (FRo T r) QRow μ1 μ2 ∧ LC T K N t4 μ2 ∧ RwC μ2 r ms ∧ gi μ2 2 0 4 = (dTw nms (nmT K t1) (lmW D ws) (pl K t1)).1 ∧ gi μ2 2 0 5 = (dTw nms (nmT K t1) (lmW D ws) (pl K t1)).2 ∧ NmC T (nms ++ [nmT K t1]) μ2 := by
    have tl := p_toldL (F := F) (x := nmT K t1) (μ := μ1) (T := T) (by omega) b7 nms F 0 (by omega) (by omega) (fun z hz => by rw [Nat.zero_add]; exact b36 z hz)
    have L17 : ∀ (μx : Mm) (D' : Int32 × Int32), fr FDb Q7 μ1 μx → gj μx 7 0 5 = gj μ1 7 0 5 → gi μx 2 0 4 = D'.1 → gi μx 2 0 5 = D'.2 → ∃ μ2, fX2_suspectName_L17 F (nmT K t1) μx = some μ2 ∧ fr (FRo T r) QRow μ1 μ2 ∧ LC T K N t4 μ2 ∧ RwC μ2 r ms ∧ gi μ2 2 0 4 = D'.1 ∧ gi μ2 2 0 5 = D'.2 ∧ NmC T (nms ++ [nmT K t1]) μ2 := fun μx D' q1 q2 q3 q4 => by
      have lx : LC T K N t4 μx := LC_g q1 q2 ⟨by unfold FDb; omega, by unfold FDb; omega⟩ (fun j hj => by unfold FDb; omega) (fun c j h1 h2 => by unfold FDb; omega) a3
      have e7 : gi μx 8 T 7 = nI nms.length := (fr_n q1 (by unfold FDb; omega)).trans b7
      unfold fX2_suspectName_L17 fX8_addName
      rw [lx.2.1, tx_nI hT, e7, if_neg (by rw [show (9 : Int32) = nI 9 from rfl, nn_le (by omega) (by omega)]; omega), if_pos ((nn_inb (by omega)).mpr hn9), nn_cl (by omega), gi_sj, e7, nn_s, bd1_s]
      generalize hμ2 : si (sj μx 36 T nms.length (nmT K t1)) 8 T 7 (nI (nms.length + 1)) = μ2
      have f2 : fr (fun c i j => c = 8 ∧ i = T ∧ j = 7) (fun c => c = 36) μx μ2 := by
        rw [← hμ2]
        exact fr_tr (fr_sj rfl) (fr_si ⟨rfl, rfl, rfl⟩)
      refine ⟨μ2, rfl, fr_tr (fr_of q1 (fun c i j z => Or.inl (Or.inr (Or.inl z))) (fun c z => Or.inl z)) (fr_of f2 (fun c i j z => Or.inr (Or.inl z)) (fun c z => Or.inr z)), LC_gq f2 (by rw [← hμ2, gj_si, gj_ne (by omega)]) (by omega) ⟨by omega, by omega⟩ (fun j hj => by omega) (fun c j h1 h2 => by omega) lx, RwC_fr f2 (fun c j hc => by omega) (RwC_fr q1 (fun c j hc => by unfold FDb; omega) r1), (fr_n f2 (by omega)).trans q3, (fr_n f2 (by omega)).trans q4, by rw [← hμ2, gi_eq, List.length_append, List.length_singleton], ?_⟩
      exact nm_app (f := fun z => gj μ1 36 T z) (f' := fun z => gj μ2 36 T z) b36 (by rw [← hμ2, gj_si, gj_eq]) (fun z hz => by
        show gj μ2 36 T z = gj μ1 36 T z
        rw [← hμ2, gj_si, gj_ne (by omega), fr_m q1 (by unfold Q7; omega)])
    unfold fX2_suspectName fX8_isTold
    rw [a3.2.1, tx_nI hT, show (0 : Int32) = nI 0 from rfl, tl, bd2_s]
    unfold dTw
    by_cases m : nmT K t1 ∈ nms
    · rw [if_pos m, if_pos m, if_neg (show ¬ (1 : Int32) = nI 0 from n1_0)]
      obtain ⟨μx, c1, c2, c3, c4, c5⟩ := p_susC (F := F) (k := 3) (p := pl K t1) b4 b5
      rw [c1, bd1_s]
      exact L17 μx _ c2 c3 c4 c5
    · rw [if_neg m, if_neg m, if_pos (show (0 : Int32) = nI 0 from rfl)]
      exact L17 μ1 _ fr_rfl rfl b4 b5
  obtain ⟨μ2, c1, c2, c3, c4, c5, c6, c7⟩ := nameStep
  rw [c1, bd1_s]
  unfold fX5_letGo
  rw [bd1_s]
  generalize hμ3 : si (si μ2 5 7 0 0) 5 7 1 1 = μ3
  have f3 : fr (fun c i _ => c = 5 ∧ i = 7) (fun _ => False) μ2 μ3 := by
    rw [← hμ3]
    exact fr_tr (fr_si ⟨rfl, rfl⟩) (fr_si ⟨rfl, rfl⟩)
  have tg3 : tgC μ3 7 = (0, 1) := by
    rw [← hμ3]
    unfold tgC
    rw [gi_ne (by omega), gi_eq, gi_eq]
  have f13 : fr (FRo T r) QRow μ μ3 := fr_tr f1 (fr_tr c2 (fr_of f3 (fun c i j z => Or.inr (Or.inr z)) (fun c z => z.elim)))
  have l3 : LC T K N t4 μ3 := LC_gq f3 (by rw [← hμ3]; rfl) (fun z => z) ⟨by omega, by omega⟩ (fun j hj => by omega) (fun c j h1 h2 => by omega) c3
  have r3 : RwC μ3 r ms := RwC_fr f3 (fun c j hc => by omega) c4
  have n3 : NmC T (nms ++ [nmT K t1]) μ3 := ⟨(fr_n f3 (by omega)).trans c7.1, fun z hz => (fr_m f3 (fun w => w)).trans (c7.2 z hz)⟩
  have e4 : gi μ3 2 0 4 = (dTw nms (nmT K t1) (lmW D ws) (pl K t1)).1 := (fr_n f3 (by omega)).trans c5
  have e5 : gi μ3 2 0 5 = (dTw nms (nmT K t1) (lmW D ws) (pl K t1)).2 := (fr_n f3 (by omega)).trans c6
  cases sq with
  | false =>
    rw [hw, if_neg (c := (if false = true then (0 : Int32) else 1) = 0) (by decide)]
    exact ⟨μ3, rfl, f13, l3, r3, e4, e5, n3⟩
  | true =>
    rw [hw, if_pos (c := (if true = true then (0 : Int32) else 1) = 0) (by decide), r3.1]
    obtain ⟨t', d1, d2⟩ := p_makesX (F := F) (i := 7) (a := nI ms.length) hF r3 (by unfold mn; split <;> rfl) hm (by rw [tg3]; exact tV01)
    rw [tg3] at d1 d2
    have f4 : fr (fun c i _ => c = 5 ∧ i = 7) (fun _ => False) μ3 (pt μ3 7 t') := fr_tr (fr_si ⟨rfl, rfl⟩) (fr_si ⟨rfl, rfl⟩)
    have f14 : fr (FRo T r) QRow μ (pt μ3 7 t') := fr_tr f13 (fr_of f4 (fun c i j z => Or.inr (Or.inr z)) (fun c z => z.elim))
    have l4 : LC T K N t4 (pt μ3 7 t') := LC_gq f4 rfl (fun z => z) ⟨by omega, by omega⟩ (fun j hj => by omega) (fun c j h1 h2 => by omega) l3
    have r4 : RwC (pt μ3 7 t') r ms := RwC_fr f4 (fun c j hc => by omega) r3
    have n4 : NmC T (nms ++ [nmT K t1]) (pt μ3 7 t') := ⟨(fr_n f4 (by omega)).trans n3.1, fun z hz => (fr_m f4 (fun w => w)).trans (n3.2 z hz)⟩
    have g4 : gi (pt μ3 7 t') 2 0 4 = (dTw nms (nmT K t1) (lmW D ws) (pl K t1)).1 := (fr_n f4 (by omega)).trans e4
    have g5 : gi (pt μ3 7 t') 2 0 5 = (dTw nms (nmT K t1) (lmW D ws) (pl K t1)).2 := (fr_n f4 (by omega)).trans e5
    rw [d1, bd2_s]
    by_cases y : (mkl ms (0, 1)).isSome = true
    · rw [y, if_neg (show ¬ b01 true = 0 by decide)]
      have eR : rowD K nms true D t1 ms ws = dTw nms (nmT K t1) (lmW D ws) (pl K t1) := by
        unfold rowD dKn
        rw [y]
        rfl
      refine ⟨_, rfl, f14, l4, r4, ?_, ?_, n4⟩
      · show _ = (rowD K nms true D t1 ms ws).1
        rw [eR, g4]
      · show _ = (rowD K nms true D t1 ms ws).2
        rw [eR, g5]
    · have yf : (mkl ms (0, 1)).isSome = false := by simpa using y
      rw [yf, if_pos (show b01 false = 0 from rfl)]
      obtain ⟨μ5, k1, k2, k3, k4, k5⟩ := p_susC (F := F) (k := 6) (p := pl K t1) g4 g5
      have eR : rowD K nms true D t1 ms ws = lm (dTw nms (nmT K t1) (lmW D ws) (pl K t1)) (6, pl K t1) := by
        unfold rowD dKn
        rw [yf]
        rfl
      rw [k1, bd1_s]
      refine ⟨μ5, rfl, fr_tr f14 (fr_of k2 (fun c i j z => Or.inl (Or.inr (Or.inl z))) (fun c z => Or.inl z)), LC_g k2 k3 ⟨by unfold FDb; omega, by unfold FDb; omega⟩ (fun j hj => by unfold FDb; omega) (fun c j h1 h2 => by unfold FDb; omega) l4, RwC_fr k2 (fun c j hc => by unfold FDb; omega) r4, ?_, ?_, (fr_n k2 (by unfold FDb; omega)).trans n4.1, fun z hz => (fr_m k2 (by unfold Q7; omega)).trans (n4.2 z hz)⟩
      · show _ = (rowD K nms true D t1 ms ws).1
        rw [eR, k4]
      · show _ = (rowD K nms true D t1 ms ws).2
        rw [eR, k5]
theorem p_rowC {F T N P r t : Nat} {K : Nat → Tk} {nms : List Int64} {sq : Bool} {wd : Nat} {D : Int32 × Int32} {μ : Mm} (hF : 1000 ≤ F) (hT : T < 2) (g : Gk K N) (hP : P ≤ 408) (hw : wd = if sq = true then 0 else 1) (hl : LC T K N t μ) (hr : RwC μ r []) (h4 : gi μ 2 0 4 = D.1) (h5 : gi μ 2 0 5 = D.2) (h8 : gi μ 8 T 5 = nI P) (hn : NmC T nms μ) (hn9 : nms.length < 9) : ∃ μ', fX2_readRowS F (nI wd) r μ = some μ' ∧ fr (FRo T r) QRow μ μ' ∧ RoC T K N r nms sq D (t + 1) (sbd (adv K t wd) fun t1 => rowg K t1) μ' := by
  have wd1 : wd ≤ 1 := by rw [hw]; split <;> omega
  obtain ⟨μ1, a1, a2, a3⟩ := p_takeC (F := F) (k := wd) g hl (by omega) hP h8
  have f1 : fr (FRo T r) QRow μ μ1 := fr_of a2 (fun c i j q => Or.inl (Or.inl q)) (fun c q => Or.inl q)
  obtain ⟨f0, hf0⟩ : ∃ x, F = x + 1 := ⟨F - 1, by omega⟩
  unfold fX2_readRowS
  rw [a1, bd1_s]
  cases h1 : adv K t wd with
  | inl e =>
    rw [h1] at a3
    rw [p_takeCd a3, bd1_s, show ∀ a b c, fX2_readRowS_L41 F F (nI wd) r a b c μ1 = fX2_readRowS_L41 F (f0 + 1) (nI wd) r a b c μ1 by intro a b c; rw [← hf0], p_41d a3]
    exact ⟨μ1, rfl, f1, a3⟩
  | inr t1 =>
  rw [h1] at a3
  obtain ⟨rfl, _, _⟩ := adv_r h1
  rw [sbd_r]
  have e8 : gi μ1 8 T 5 = nI P := (fr_n a2 (by unfold FA; omega)).trans h8
  obtain ⟨μ2, b1, b2, b3⟩ := p_takeC (F := F) (k := 22) g a3 (by omega) hP e8
  have f2 : fr (FRo T r) QRow μ μ2 := fr_tr f1 (fr_of b2 (fun c i j q => Or.inl (Or.inl q)) (fun c q => Or.inl q))
  rw [show (22 : Int32) = nI 22 from rfl, b1, bd1_s]
  unfold rowg
  cases h2 : adv K (t + 1) 22 with
  | inl e =>
    rw [h2] at b3
    rw [show ∀ a b c, fX2_readRowS_L41 F F (nI wd) r a b c μ2 = fX2_readRowS_L41 F (f0 + 1) (nI wd) r a b c μ2 by intro a b c; rw [← hf0], p_41d b3]
    exact ⟨μ2, rfl, f2, b3⟩
  | inr t2 =>
  rw [h2] at b3
  obtain ⟨_, _, k22⟩ := adv_r h2
  have ep : gi μ1 7 0 3 = pl K (t + 1) := a3.2.2.2.1.2.2.1
  have en : gj μ1 7 0 5 = nmT K (t + 1) := a3.2.2.2.1.2.2.2.2 (by unfold tkd at k22; omega)
  have f12 := fr_tr a2 b2
  obtain ⟨μ3, c1, c2⟩ := p_mvC (F := F) (T := T) (P := P) (r := r) (v1 := nI wd) (v3 := pl K (t + 1)) (v4 := nmT K (t + 1)) g hP 8 t2 F [] D μ2 rfl (by omega) b3 (RwC_fr f12 (fun c j hc => by unfold FA; omega) hr) ((fr_n f12 (by unfold FA; omega)).trans h4) ((fr_n f12 (by unfold FA; omega)).trans h5) ((fr_n b2 (by unfold FA; omega)).trans e8)
  have f3 : fr (FRo T r) QRow μ μ3 := fr_tr f2 (fr_of c1 (fun c i j q => Or.inl q) (fun c q => Or.inl q))
  rw [ep, en, show (0 : Int32) = nI ([] : List (Int32 × Int32)).length from rfl, sbd_r]
  cases h3 : mvg K 8 t2 with
  | inl e =>
    rw [h3] at c2
    obtain ⟨d1, d2⟩ := c2
    exact ⟨μ3, d1, f3, d2⟩
  | inr s =>
    rw [h3] at c2
    obtain ⟨d1, d2, d3, d4, d5⟩ := c2
    have mv := mvg_ok g.2.2 8 t2 s h3
    rw [d1, sbd_r]
    obtain ⟨μ', m1, m2, m3⟩ := p_79C (F := F) (T := T) (P := P) (t1 := t + 1) (t3 := s.1) (nms := nms) (sq := sq) (wd := nI wd) (D := D) (ms := s.2.1) (ws := s.2.2) hF hT g hP (by rw [hw]; cases sq <;> rfl) d2 d3 mv.1 d4 d5 ((fr_n c1 (by unfold FMv FA FDR FDb FRw; omega)).trans ((fr_n b2 (by unfold FA; omega)).trans e8)) ⟨(fr_n c1 (by unfold FMv FA FDR FDb FRw; omega)).trans ((fr_n f12 (by unfold FA; omega)).trans hn.1), fun z hz => (fr_m c1 (by unfold Q7; omega)).trans ((fr_m f12 (by unfold Q7; omega)).trans (hn.2 z hz))⟩ hn9
    exact ⟨μ', m1, fr_tr f3 m2, m3⟩
