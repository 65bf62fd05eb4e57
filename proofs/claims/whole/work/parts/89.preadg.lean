/-! PURE: read, a whole row; the reference -/
def RoR (K : Nat → Tk) (N q x : Nat) (nms : List Int64) (sq : Bool) (D : Int32 × Int32) (t1 : Nat) (z : Sum (Int32 × Int32) (Nat × List (Int32 × Int32) × List Int32)) (ν' : Mm) : Prop := match z with
  | Sum.inl e => DdR e ν'
  | Sum.inr s => LR K N s.1 ν' ∧ RwR ν' q s.2.1 ∧ DoR (rowD K nms sq D t1 s.2.1 s.2.2) ν' ∧ NmR (nms ++ [nmT K t1]) ν' ∧ (sq = true → gi ν' 61 0 x = atR (mkl s.2.1 (0, 1)))
theorem p_13R {F N q t x L : Nat} {K : Nat → Tk} {v2 : Int32} (g : Gk K N) (hL : L ≤ 9) (hx : x ≤ N) (h22 : (K x).1 = 22) : ∀ (l : List Int64) (n i : Nat) (D : Int32 × Int32) (ν : Mm), i + l.length = L → l.length < n → LR K N t ν → gi ν 12 0 20 = nI L → (∀ z, (h : z < l.length) → gj ν 55 0 (i + z) = l[z]) → DoR D ν → dvd D → ∃ ν', fX12_tellRow_L13 F n (nI q) v2 (nI x) (nI i) ν = fX12_tellRow_L58 F (nI q) v2 (nI x) ν' ∧ fr FDo Q0 ν ν' ∧ DoR (dTw l (nmT K x) D (pl K x)) ν'
  | _, 0, _, _, _, _, h, _, _, _, _, _ => absurd h (Nat.not_lt_zero _)
  | [], n + 1, i, D, ν, h1, h2, hl, h20, hn, hd, hv => by
    rw [fX12_tellRow_L13, h20, if_pos (by simp only [List.length_nil] at h1; rw [nn_le (by omega) (by omega)]; omega)]
    refine ⟨ν, rfl, fr_rfl, ?_⟩
    unfold dTw
    rw [if_neg (c := nmT K x ∈ ([] : List Int64)) List.not_mem_nil]
    exact hd
  | y :: l, n + 1, i, D, ν, h1, h2, hl, h20, hn, hd, hv => by
    simp only [List.length_cons] at h1 h2
    have hN := g.1.1
    have h0 : gj ν 55 0 i = y := hn 0 (by simp)
    have hn' : ∀ z, (h : z < l.length) → gj ν 55 0 (i + 1 + z) = l[z] := fun z hz => by
      have q := hn (z + 1) (by simp; omega)
      rw [show i + (z + 1) = i + 1 + z by omega] at q
      exact q
    have ex : gj ν 53 0 x = nmT K x := (hl.2.1 x hx).2.2.2 (by omega)
    rw [fX12_tellRow_L13, h20, if_neg (by rw [nn_le (by omega) (by omega)]; omega), if_pos hl.1, if_pos ((nn_inb (by omega)).mpr (by omega)), if_pos ((nn_inb (by omega)).mpr (by omega)), nn_cl (by omega), nn_cl (by omega), h0, ex]
    unfold fX12_tellRow_L52
    by_cases c : y = nmT K x
    · obtain ⟨ν1, a1, a2, a3⟩ := p_wrR (F := F) (x := x) (k := 3) g hl hx hd (by decide)
      rw [if_pos (lg0.mpr c), a1, bd1_s, nn_s]
      obtain ⟨ν', b1, b2, b3⟩ := p_13R (F := F) (v2 := v2) g hL hx h22 l n (i + 1) _ ν1 (by omega) (by omega) (LR_Do a2 hl) ((fr_n a2 (by unfold FDo; omega)).trans h20) (fun z hz => (fr_m a2 (fun w => w)).trans (hn' z hz)) a3 (lm_dvd hv k36.1)
      refine ⟨ν', b1, fr_tr a2 b2, ?_⟩
      have e : dTw (y :: l) (nmT K x) D (pl K x) = dTw l (nmT K x) (lm D (3, pl K x)) (pl K x) := by
        unfold dTw
        rw [if_pos (c := nmT K x ∈ y :: l) (by rw [c]; exact List.mem_cons_self)]
        split
        · rw [lm_idem hv k36.1]
        · rfl
      rw [e]
      exact b3
    · rw [if_neg (fun w => c (lg0.mp w)), nn_s]
      obtain ⟨ν', b1, b2, b3⟩ := p_13R (F := F) (v2 := v2) g hL hx h22 l n (i + 1) D ν (by omega) (by omega) hl h20 hn' hd hv
      refine ⟨ν', b1, b2, ?_⟩
      have e : dTw (y :: l) (nmT K x) D (pl K x) = dTw l (nmT K x) D (pl K x) := by
        unfold dTw
        by_cases m : nmT K x ∈ l
        · rw [if_pos m, if_pos (c := nmT K x ∈ y :: l) (List.mem_cons_of_mem _ m)]
        · rw [if_neg m, if_neg (c := nmT K x ∈ y :: l) (fun w => by
            rcases List.mem_cons.mp w with w | w
            · exact c w.symm
            · exact m w)]
      rw [e]
      exact b3
theorem p_58d {F q : Nat} {e : Int32 × Int32} {v2 v3 : Int32} {ν : Mm} (hF : 1000 ≤ F) (hq : q < 18) (h : DdR e ν) : ∃ ν', fX12_tellRow_L58 F (nI q) v2 v3 ν = some ν' ∧ fr (FRr q) Q0 ν ν' ∧ DdR e ν' := by
  have f : fr (FRr q) Q0 ν (si ν 58 0 q 0) := fr_si (Or.inl ⟨rfl, rfl⟩)
  have d := DdR_Rr f h
  obtain ⟨f0, hf0⟩ : ∃ x, F = x + 1 := ⟨F - 1, by omega⟩
  unfold fX12_tellRow_L58
  rw [if_pos ((nn_inb (by omega)).mpr hq), nn_cl (by omega), show ∀ a b c d e μ, fX12_tellRow_L73 F F a b c d e μ = fX12_tellRow_L73 F (f0 + 1) a b c d e μ by intro a b c d e μ; rw [← hf0], p_73d d]
  exact ⟨_, rfl, f, d⟩
theorem p_13d {F q n i : Nat} {e : Int32 × Int32} {v2 v3 : Int32} {ν : Mm} (h : DdR e ν) : fX12_tellRow_L13 F (n + 1) (nI q) v2 v3 (nI i) ν = fX12_tellRow_L58 F (nI q) v2 v3 ν := by
  rw [fX12_tellRow_L13, if_neg (c := gi ν 12 0 13 = 0) (deadR h).1]
  split <;> rfl
/-- behind the last MOVE -/
theorem p_235R {F N S q x t1 t3 : Nat} {K : Nat → Tk} {nms : List Int64} {sq : Bool} {v2 : Int32} {D : Int32 × Int32} {ms : List (Int32 × Int32)} {ws : List Int32} {ν : Mm} (g : Gk K N) (hS : S < 2) (hq : q < 18) (hq5 : sq = true → 9 * S ≤ q ∧ q < 9 * S + 4) (hx : sq = true → x = q - 5 * S) (h2 : v2 = if sq = true then 1 else 0) (ht1 : t1 ≤ N) (h22 : (K t1).1 = 22) (hl : LR K N t3 ν) (h19 : gi ν 12 0 19 = nI S) (hr : RwR ν q ms) (h8 : ms.length ≤ 8) (hd : DoR (dTw nms (nmT K t1) (lmW D ws) (pl K t1)) ν) (hn : NmR nms ν) (hn9 : nms.length < 9) : ∃ ν', fX12_tellRow_L235 F (nI q) v2 (nI t1) (flR (mkl ms (0, 1))) (atR (mkl ms (0, 1))) ν = some ν' ∧ fr (FRp q x) Q55 ν ν' ∧ RoR K N q x nms sq D t1 (sbd (adv K t3 24) fun t4 => Sum.inr (t4, ms, ws)) ν' := by
  have hN := g.1.1
  obtain ⟨ν1, a1, a2, a3⟩ := p_mustR (F := F) (k := 24) g hl (by omega)
  have f1 : fr (FRp q x) Q55 ν ν1 := fr_of a2 (fun c i j q => Or.inl (Or.inl q)) (fun c q => q.elim)
  unfold fX12_tellRow_L235
  rw [show (4 : Int32) = km 24 from rfl, a1, bd1_s]
  cases h1 : adv K t3 24 with
  | inl e =>
    rw [h1] at a3
    rw [if_neg (deadR a3).2.1]
    exact ⟨ν1, rfl, f1, a3⟩
  | inr t4 =>
  rw [h1] at a3
  rw [a3.1, if_pos (by decide), sbd_r]
  have r1 : RwR ν1 q ms := RwR_fr a2 h8 ⟨by unfold FB; omega, fun c j hc _ _ => by unfold FB; omega⟩ hr
  have d1 := DoR_fr a2 ⟨by unfold FB; omega, by unfold FB; omega⟩ hd
  have e20 : gi ν1 12 0 20 = nI nms.length := (fr_n a2 (by unfold FB; omega)).trans hn.1
  have e19 : gi ν1 12 0 19 = nI S := (fr_n a2 (by unfold FB; omega)).trans h19
  have e55 : ∀ z, (h : z < nms.length) → gj ν1 55 0 z = nms[z] := fun z hz => (fr_m a2 (fun w => w)).trans (hn.2 z hz)
  -- the name is kept
  have L283 : ∀ (D' : Int32 × Int32) (νx : Mm), fr (fun c i j => FDo c i j ∨ (c = 61 ∧ j = x)) Q0 ν1 νx → DoR D' νx → D' = rowD K nms sq D t1 ms ws → (sq = true → gi νx 61 0 x = atR (mkl ms (0, 1))) → ∃ ν', fX12_tellRow_L283 F (nI t1) νx = some ν' ∧ fr (FRp q x) Q55 ν ν' ∧ RoR K N q x nms sq D t1 (Sum.inr (t4, ms, ws)) ν' := fun D' νx q1 q2 q3 q4 => by
    have lx : LR K N t4 νx := LR_fr q1 ⟨by unfold FDo; omega, by unfold FDo; omega⟩ (fun c j h1 h2 => by unfold FDo; omega) a3
    have x20 : gi νx 12 0 20 = nI nms.length := (fr_n q1 (by unfold FDo; omega)).trans e20
    unfold fX12_tellRow_L283
    rw [if_pos ((nn_inb (by omega)).mpr (by omega)), x20, if_pos ((nn_inb (by omega)).mpr hn9), nn_cl (by omega), nn_cl (by omega), (lx.2.1 t1 ht1).2.2.2 (by omega), gi_sj, x20, nn_s]
    generalize hν2 : si (sj νx 55 0 nms.length (K t1).2.2.2) 12 0 20 (nI (nms.length + 1)) = ν2
    have f2 : fr (fun c i j => c = 12 ∧ j = 20) Q55 νx ν2 := by
      rw [← hν2]
      exact fr_tr (fr_sj rfl) (fr_si ⟨rfl, rfl⟩)
    refine ⟨ν2, rfl, fr_tr f1 (fr_tr (fr_of q1 (fun c i j z => by rcases z with z | z; exact Or.inl (Or.inr (Or.inl z)); exact Or.inr (Or.inr z)) (fun c z => z.elim)) (fr_of f2 (fun c i j z => Or.inr (Or.inl z)) (fun c z => z))), LR_frq f2 (by unfold Q55; omega) ⟨by omega, by omega⟩ (fun c j h1 h2 => by omega) lx, RwR_fr f2 h8 ⟨by omega, fun c j hc _ _ => by omega⟩ (RwR_fr q1 h8 ⟨by unfold FDo; omega, fun c j hc _ _ => by unfold FDo; omega⟩ r1), by rw [← q3]; exact DoR_fr f2 ⟨by omega, by omega⟩ q2, ⟨by rw [← hν2, gi_eq, List.length_append, List.length_singleton], ?_⟩, fun hs => (fr_n f2 (by omega)).trans (q4 hs)⟩
    exact nm_app (f := fun z => gj ν1 55 0 z) (f' := fun z => gj ν2 55 0 z) e55 (by rw [← hν2, gj_si, gj_eq]; rfl) (fun z hz => by
      show gj ν2 55 0 z = gj ν1 55 0 z
      rw [← hν2, gj_si, gj_ne (by omega), fr_m q1 (fun w => w)])
  cases sq with
  | false =>
    rw [h2, if_pos (c := (if false = true then (1 : Int32) else 0) = 0) (by decide)]
    unfold fX12_tellRow_L264
    rw [if_pos (c := (if false = true then (1 : Int32) else 0) = 0) (by decide)]
    exact L283 _ ν1 fr_rfl d1 rfl (fun w => absurd w (by decide))
  | true =>
    obtain ⟨q9, q94⟩ := hq5 rfl
    rw [h2, if_neg (c := (if true = true then (1 : Int32) else 0) = 0) (by decide)]
    have L264 : ∀ (D' : Int32 × Int32) (νx : Mm), fr FDo Q0 ν1 νx → DoR D' νx → D' = rowD K nms true D t1 ms ws → ∃ ν', fX12_tellRow_L264 F (nI q) (if true = true then 1 else 0) (nI t1) (atR (mkl ms (0, 1))) νx = some ν' ∧ fr (FRp q x) Q55 ν ν' ∧ RoR K N q x nms true D t1 (Sum.inr (t4, ms, ws)) ν' := fun D' νx q1 q2 q3 => by
      unfold fX12_tellRow_L264
      rw [if_neg (c := (if true = true then (1 : Int32) else 0) = 0) (by decide), show gi νx 12 0 19 = nI S from (fr_n q1 (by unfold FDo; omega)).trans e19, show (5 : Int32) = nI 5 from rfl, nn_mul, nn_sub (by omega), if_pos ((nn_inb (by omega)).mpr (by omega)), nn_cl (by omega), ← hx rfl]
      have f2 : fr (fun c i j => FDo c i j ∨ (c = 61 ∧ j = x)) Q0 ν1 (si νx 61 0 x (atR (mkl ms (0, 1)))) := fr_tr (fr_of q1 (fun c i j z => Or.inl z) (fun c z => z)) (fr_si (Or.inr ⟨rfl, rfl⟩))
      exact L283 D' _ f2 ⟨(gi_ne (by omega)).trans q2.1, fun w => (gi_ne (by omega)).trans (q2.2 w)⟩ q3 (fun _ => gi_eq)
    by_cases y : (mkl ms (0, 1)).isSome = true
    · have eR : dTw nms (nmT K t1) (lmW D ws) (pl K t1) = rowD K nms true D t1 ms ws := by
        unfold rowD dKn
        rw [y]
        rfl
      rw [show flR (mkl ms (0, 1)) = 1 by unfold flR; rw [if_pos y], if_neg n1_0]
      exact L264 _ ν1 fr_rfl d1 eR
    · have yf : (mkl ms (0, 1)).isSome = false := by simpa using y
      have eR : lm (dTw nms (nmT K t1) (lmW D ws) (pl K t1)) (6, pl K t1) = rowD K nms true D t1 ms ws := by
        unfold rowD dKn
        rw [yf]
        rfl
      obtain ⟨νx, b1, b2, b3⟩ := p_wrR (F := F) (x := t1) (k := 6) g a3 ht1 d1 (by decide)
      rw [show flR (mkl ms (0, 1)) = 0 by unfold flR; rw [if_neg y], if_pos rfl, b1, bd1_s]
      exact L264 _ νx b2 b3 eR
theorem p_rowR {F N S q x t1 : Nat} {K : Nat → Tk} {nms : List Int64} {sq : Bool} {v2 : Int32} {D : Int32 × Int32} {ν : Mm} (hF : 1000 ≤ F) (g : Gk K N) (hS : S < 2) (hq : q < 18) (hq5 : sq = true → 9 * S ≤ q ∧ q < 9 * S + 4) (hx : sq = true → x = q - 5 * S) (h2 : v2 = if sq = true then 1 else 0) (hl : LR K N t1 ν) (h19 : gi ν 12 0 19 = nI S) (hd : DoR D ν) (hv : dvd D) (hn : NmR nms ν) (hn9 : nms.length < 9) : ∃ ν', fX12_tellRow F (nI q) v2 ν = some ν' ∧ fr (FRp q x) Q55 ν ν' ∧ RoR K N q x nms sq D t1 (rowg K t1) ν' := by
  have hN := g.1.1
  have tN := hl.2.2.2
  obtain ⟨f0, hf0⟩ : ∃ x, F = x + 1 := ⟨F - 1, by omega⟩
  obtain ⟨ν1, a1, a2, a3⟩ := p_mustR (F := F) (k := 22) g hl (by omega)
  have f1 : fr (FRp q x) Q55 ν ν1 := fr_of a2 (fun c i j q => Or.inl (Or.inl q)) (fun c q => q.elim)
  unfold fX12_tellRow
  rw [show (1 : Int32) = km 22 from rfl, a1, bd1_s, hl.2.2.1]
  unfold rowg
  cases h1 : adv K t1 22 with
  | inl e =>
    rw [h1] at a3
    obtain ⟨ν', b1, b2, b3⟩ := p_58d (F := F) (q := q) (v2 := v2) (v3 := nI t1) hF hq a3
    rw [show ∀ a b c d μ, fX12_tellRow_L13 F F a b c d μ = fX12_tellRow_L13 F (f0 + 1) a b c d μ by intro a b c d μ; rw [← hf0], show (0 : Int32) = nI 0 from rfl, p_13d a3, b1]
    exact ⟨ν', rfl, fr_tr f1 (fr_of b2 (fun c i j z => Or.inl (Or.inr (Or.inr z))) (fun c z => z.elim)), b3⟩
  | inr t2 =>
  rw [h1] at a3
  obtain ⟨_, _, k22⟩ := adv_r h1
  have e20 : gi ν1 12 0 20 = nI nms.length := (fr_n a2 (by unfold FB; omega)).trans hn.1
  obtain ⟨ν2, b1, b2, b3⟩ := p_13R (F := F) (q := q) (L := nms.length) (v2 := v2) g (by omega) tN k22 nms F 0 D ν1 (by omega) (by omega) a3 e20 (fun z hz => by rw [Nat.zero_add]; exact (fr_m a2 (fun w => w)).trans (hn.2 z hz)) (DoR_fr a2 ⟨by unfold FB; omega, by unfold FB; omega⟩ hd) hv
  rw [show (0 : Int32) = nI 0 from rfl, b1, sbd_r]
  unfold fX12_tellRow_L58
  rw [if_pos ((nn_inb (by omega)).mpr hq), nn_cl (by omega)]
  generalize hν3 : si ν2 58 0 q 0 = ν3
  have f3 : fr (FRr q) Q0 ν2 ν3 := by
    rw [← hν3]
    exact fr_si (Or.inl ⟨rfl, rfl⟩)
  have f13 : fr (FRp q x) Q55 ν ν3 := fr_tr f1 (fr_tr (fr_of b2 (fun c i j z => Or.inl (Or.inr (Or.inl z))) (fun c z => z.elim)) (fr_of f3 (fun c i j z => Or.inl (Or.inr (Or.inr z))) (fun c z => z.elim)))
  obtain ⟨ν4, c1, c2⟩ := p_mvR (F := F) (v2 := v2) (v3 := nI t1) g hq 8 t2 F [] (some (0, 1)) _ ν3 rfl (by omega) (LR_Rr f3 (LR_Do b2 a3)) ⟨by rw [← hν3, gi_eq]; rfl, fun j hj => absurd hj (Nat.not_lt_zero _)⟩ (DoR_fr f3 ⟨by unfold FRr; omega, by unfold FRr; omega⟩ b3) (fun u e => by cases e; exact tV01)
  have f4 : fr (FRp q x) Q55 ν ν4 := fr_tr f13 (fr_of c1 (fun c i j z => Or.inl z) (fun c z => z.elim))
  show ∃ ν', fX12_tellRow_L73 F F (nI q) v2 (nI t1) (flR (some (0, 1))) (atR (some (0, 1))) ν3 = some ν' ∧ _
  cases h3 : mvg K 8 t2 with
  | inl e =>
    rw [h3] at c2
    obtain ⟨d1, d2⟩ := c2
    exact ⟨ν4, d1, f4, d2⟩
  | inr s =>
    rw [h3] at c2
    obtain ⟨d1, d2, d3, d4⟩ := c2
    have mv := mvg_ok g.2.2 8 t2 s h3
    rw [d1, sbd_r]
    have f34 := fr_tr (fr_of f3 (fun c i j z => (Or.inr (Or.inr z) : FMr q c i j)) (fun c z => z)) c1
    have f24 := fr_tr (fr_of b2 (fun c i j z => (Or.inr (Or.inl z) : FMr q c i j)) (fun c z => z)) f34
    have f04 := fr_tr (fr_of a2 (fun c i j z => (Or.inl z : FMr q c i j)) (fun c z => z)) f24
    have ed : dTw nms (nmT K t1) (lmW D s.2.2) (pl K t1) = lmW (dTw nms (nmT K t1) D (pl K t1)) s.2.2 := by
      unfold dTw
      split
      · exact (lmW_comm k36.1 s.2.2 D hv).symm
      · rfl
    obtain ⟨ν', m1, m2, m3⟩ := p_235R (F := F) (S := S) (q := q) (t1 := t1) (t3 := s.1) (nms := nms) (sq := sq) (v2 := v2) (D := D) (ms := s.2.1) (ws := s.2.2) g hS hq hq5 hx h2 tN k22 d2 ((fr_n f04 (by unfold FB FDo FRr; omega)).trans h19) d3 mv.2.2.1 (by rw [ed]; exact d4) ⟨(fr_n f04 (by unfold FB FDo FRr; omega)).trans hn.1, fun z hz => (fr_m f04 (fun w => w)).trans (hn.2 z hz)⟩ hn9
    exact ⟨ν', m1, fr_tr f4 m2, m3⟩
