/-! PURE: read, rows; the reference -/
def DoR (D : Int32 × Int32) (ν : Mm) : Prop := gi ν 12 0 15 = D.1 ∧ (D.1 ≠ 0 → gi ν 12 0 16 = D.2)
def FDo (c _ j : Nat) : Prop := c = 12 ∧ (j = 15 ∨ j = 16)
theorem p_wrR {F N t x : Nat} {K : Nat → Tk} {D : Int32 × Int32} {k : Int32} {ν : Mm} (g : Gk K N) (hl : LR K N t ν) (hx : x ≤ N) (h : DoR D ν) (hk : k ≠ 0) : ∃ ν', fX12_wrong F k (nI x) ν = some ν' ∧ fr FDo Q0 ν ν' ∧ DoR (lm D (k, pl K x)) ν' := by
  have hN := g.1.1
  obtain ⟨h1, h2⟩ := h
  have set : ∃ ν', fX12_wrong_L46 F k (pl K x) ν = some ν' ∧ fr FDo Q0 ν ν' ∧ DoR (k, pl K x) ν' := ⟨_, rfl, fr_tr (fr_si ⟨rfl, Or.inl rfl⟩) (fr_si ⟨rfl, Or.inr rfl⟩), by rw [gi_ne (by omega), gi_eq], fun _ => gi_eq⟩
  have keep : ∃ ν', some ν = some ν' ∧ fr FDo Q0 ν ν' ∧ DoR D ν' := ⟨ν, rfl, fr_rfl, h1, h2⟩
  unfold fX12_wrong lm
  rw [if_pos ((nn_inb (by omega)).mpr (by omega)), hl.1, if_neg (by decide), h1, nn_cl (by omega), (hl.2.1 x hx).2.1, show (K x).2.1 = pl K x from rfl]
  by_cases c0 : D.1 = 0
  · rw [if_pos c0, if_pos c0]
    exact set
  · rw [if_neg c0, if_neg c0, h2 c0]
    by_cases c1 : pl K x < D.2
    · rw [if_neg (c := D.2 < pl K x) (by rw [i_lt] at c1 ⊢; omega), if_neg (c := pl K x = D.2) (by rw [i_lt] at c1; rw [i_eq]; omega), if_pos c1]
      exact set
    · rw [if_neg c1]
      by_cases c2 : pl K x = D.2
      · rw [if_neg (c := D.2 < pl K x) (by rw [i_eq] at c2; rw [i_lt]; omega), if_pos c2, if_pos c2]
        by_cases c3 : D.1 ≤ k
        · rw [if_neg (c := k < D.1) (by rw [i_le] at c3; rw [i_lt]; omega), if_pos c3]
          exact keep
        · rw [if_pos (c := k < D.1) (by rw [i_le] at c3; rw [i_lt]; omega), if_neg c3]
          exact set
      · rw [if_pos (c := D.2 < pl K x) (by rw [i_eq] at c2; rw [i_lt] at c1 ⊢; omega), if_neg c2]
        exact keep
theorem p_wrRd {F x : Nat} {e : Int32 × Int32} {k : Int32} {ν : Mm} (h : DdR e ν) (hx : x ≤ 402) : fX12_wrong F k (nI x) ν = some ν := by
  unfold fX12_wrong
  rw [if_pos ((nn_inb (by omega)).mpr (by omega)), if_pos (deadR h).2.2]
theorem LR_Do {N t : Nat} {K : Nat → Tk} {ν ν' : Mm} (h : fr FDo Q0 ν ν') (q : LR K N t ν) : LR K N t ν' := LR_fr h ⟨by unfold FDo; omega, by unfold FDo; omega⟩ (fun c j h1 h2 => by unfold FDo; omega) q
theorem DoR_fr {P : Nat → Nat → Nat → Prop} {Q : Nat → Prop} {D : Int32 × Int32} {ν ν' : Mm} (h : fr P Q ν ν') (hp : ¬ P 12 0 15 ∧ ¬ P 12 0 16) (q : DoR D ν) : DoR D ν' := ⟨(fr_n h hp.1).trans q.1, fun w => (fr_n h hp.2).trans (q.2 w)⟩
def RwR (ν : Mm) (q : Nat) (ms : List (Int32 × Int32)) : Prop := gi ν 58 0 q = nI ms.length ∧ ∀ j, (h : j < ms.length) → gi ν 59 0 (8 * q + j) = (ms[j]).1 ∧ gi ν 60 0 (8 * q + j) = (ms[j]).2
def FRr (q : Nat) (c _ j : Nat) : Prop := (c = 58 ∧ j = q) ∨ ((c = 59 ∨ c = 60) ∧ 8 * q ≤ j ∧ j < 8 * q + 8)
theorem RwR_fr {P : Nat → Nat → Nat → Prop} {Q : Nat → Prop} {q : Nat} {ms : List (Int32 × Int32)} {ν ν' : Mm} (h : fr P Q ν ν') (h8 : ms.length ≤ 8) (hp : ¬ P 58 0 q ∧ ∀ c j, (c = 59 ∨ c = 60) → 8 * q ≤ j → j < 8 * q + 8 → ¬ P c 0 j) (r : RwR ν q ms) : RwR ν' q ms := ⟨(fr_n h hp.1).trans r.1, fun j hj => ⟨(fr_n h (hp.2 _ _ (Or.inl rfl) (by omega) (by omega))).trans (r.2 j hj).1, (fr_n h (hp.2 _ _ (Or.inr rfl) (by omega) (by omega))).trans (r.2 j hj).2⟩⟩
def FMr (q : Nat) (c i j : Nat) : Prop := FB c i j ∨ FDo c i j ∨ FRr q c i j
def atR (o : Option Tg) : Int32 := match o with
  | some u => enc u
  | none => -1
def obk (w : Int32 × Int32) (o : Option Tg) : Option Tg := match o with
  | none => none
  | some u => mk1 w u
def obl (l : List (Int32 × Int32)) (o : Option Tg) : Option Tg := match o with
  | none => none
  | some u => mkl l u
theorem obl_c {w : Int32 × Int32} {l : List (Int32 × Int32)} {o : Option Tg} : obl l (obk w o) = obl (w :: l) o := by
  cases o with
  | none => rfl
  | some u =>
    show obl l (mk1 w u) = mkl (w :: l) u
    rw [mkl_c]
    cases mk1 w u <;> rfl
def flR (o : Option Tg) : Int32 := if o.isSome = true then 1 else 0
theorem p_235d {F : Nat} {e : Int32 × Int32} {v1 v2 v3 v4 v5 : Int32} {ν : Mm} (h : DdR e ν) : fX12_tellRow_L235 F v1 v2 v3 v4 v5 ν = some ν := by
  unfold fX12_tellRow_L235
  rw [p_mustRd h, bd1_s, if_neg (deadR h).2.1]
theorem p_73d {F m : Nat} {e : Int32 × Int32} {v1 v2 v3 v4 v5 : Int32} {ν : Mm} (h : DdR e ν) : fX12_tellRow_L73 F (m + 1) v1 v2 v3 v4 v5 ν = some ν := by
  rw [fX12_tellRow_L73, if_neg (deadR h).1, p_235d h]
theorem p_boR {F N t : Nat} {K : Nat → Tk} {D : Int32 × Int32} {ν : Mm} (g : Gk K N) (hl : LR K N t ν) (h : DoR D ν) : ∃ ν' r, fX12_bounded F 1 9 ν = some (r, ν') ∧ fr (fun c i j => FB c i j ∨ FDo c i j) Q0 ν ν' ∧ (1 ≤ r.toInt ∧ r.toInt ≤ 9999 ∨ 0 ≤ r.toInt ∧ r.toInt ≤ 9999) ∧ RR K N (adv K t 23) ν' ∧ ∀ t2, adv K t 23 = Sum.inr t2 → r = (K t).2.2.1 ∧ DoR (lmW D (if (K t).2.2.1 < 1 ∨ 9 < (K t).2.2.1 then [pl K t] else [])) ν' := by
  have hN := g.1.1
  have tN := hl.2.2.2
  have i2 := p_isR (F := F) (k := 23) g hl (by omega)
  rw [show km 23 = 2 from rfl] at i2
  unfold fX12_bounded
  rw [if_neg (by rw [hl.1]; decide), i2, bd2_s]
  by_cases y : tkd K t = 23
  · obtain ⟨v, hv, ev⟩ := g.2.2 t y
    have e52 := (hl.2.1 t tN).2.2.1 y
    have adv0 : adv K t 23 = if t = 400 then Sum.inl (2, pl K t) else Sum.inr (t + 1) := by
      unfold adv
      rw [if_pos y]
    rw [if_pos y, if_neg n1_0, hl.2.2.1, if_pos ((nn_inb (by omega)).mpr (by omega)), nn_cl (by omega), e52]
    have go : ∀ (D' : Int32 × Int32) (ν1 : Mm), fr FDo Q0 ν ν1 → DoR D' ν1 → D' = lmW D (if (K t).2.2.1 < 1 ∨ 9 < (K t).2.2.1 then [pl K t] else []) → ∃ ν' r, fX12_bounded_L51 F ((K t).2.2.1) ν1 = some (r, ν') ∧ fr (fun c i j => FB c i j ∨ FDo c i j) Q0 ν ν' ∧ (1 ≤ r.toInt ∧ r.toInt ≤ 9999 ∨ 0 ≤ r.toInt ∧ r.toInt ≤ 9999) ∧ RR K N (adv K t 23) ν' ∧ ∀ t2, adv K t 23 = Sum.inr t2 → r = (K t).2.2.1 ∧ DoR (lmW D (if (K t).2.2.1 < 1 ∨ 9 < (K t).2.2.1 then [pl K t] else [])) ν' := fun D' ν1 f1 d1 eD => by
      obtain ⟨ν2, a1, a2, a3⟩ := p_goesR (F := F) g (LR_Do f1 hl) (by unfold tkd at y; omega)
      rw [← adv0] at a3
      unfold fX12_bounded_L51
      rw [a1, bd1_s]
      refine ⟨ν2, _, rfl, fr_tr (fr_of f1 (fun c i j q => Or.inr q) (fun c q => q)) (fr_of a2 (fun c i j q => Or.inl q) (fun c q => q)), Or.inr (by rw [ev, nI_toInt (by omega)]; omega), a3, fun t2 h2 => ⟨rfl, ?_⟩⟩
      rw [← eD]
      exact DoR_fr a2 ⟨by unfold FB; omega, by unfold FB; omega⟩ d1
    have bad : (K t).2.2.1 < 1 ∨ 9 < (K t).2.2.1 → ∃ ν' r, fX12_bounded_L42 F ((K t).2.2.1) ν = some (r, ν') ∧ fr (fun c i j => FB c i j ∨ FDo c i j) Q0 ν ν' ∧ (1 ≤ r.toInt ∧ r.toInt ≤ 9999 ∨ 0 ≤ r.toInt ∧ r.toInt ≤ 9999) ∧ RR K N (adv K t 23) ν' ∧ ∀ t2, adv K t 23 = Sum.inr t2 → r = (K t).2.2.1 ∧ DoR (lmW D (if (K t).2.2.1 < 1 ∨ 9 < (K t).2.2.1 then [pl K t] else [])) ν' := fun q => by
      obtain ⟨ν1, a1, a2, a3⟩ := p_wrR (F := F) (x := t) (k := 5) g hl tN h (by decide)
      unfold fX12_bounded_L42
      rw [hl.2.2.1, a1, bd1_s]
      exact go _ ν1 a2 a3 (by rw [if_pos q]; rfl)
    by_cases c1 : (K t).2.2.1 < 1
    · rw [if_pos c1]
      exact bad (Or.inl c1)
    · rw [if_neg c1]
      by_cases c2 : (K t).2.2.1 ≤ 9
      · rw [if_pos c2]
        exact go D ν fr_rfl h (by
          rw [if_neg (c := (K t).2.2.1 < 1 ∨ 9 < (K t).2.2.1) (fun q => by
            rcases q with q | q
            · exact c1 q
            · rw [i_le] at c2
              rw [i_lt] at q
              omega)]
          rfl)
      · rw [if_neg c2]
        exact bad (Or.inr (by rw [i_le] at c2; rw [i_lt]; omega))
  · obtain ⟨ν1, a1, a2, a3⟩ := p_failR (F := F) (f := 1) g hl (Or.inl rfl)
    have adv0 : adv K t 23 = Sum.inl (1, pl K t) := by
      unfold adv
      rw [if_neg y]
    rw [if_neg y, if_pos rfl]
    unfold fX12_bounded_L15
    rw [a1, bd1_s]
    exact ⟨ν1, 1, rfl, fr_of a2 (fun c i j q => Or.inl q) (fun c q => q), Or.inl (by decide), by rw [adv0]; exact a3, fun t2 h2 => by rw [adv0] at h2; cases h2⟩
def MVR (F : Nat) (K : Nat → Tk) (N q : Nat) (v2 v3 : Int32) (ms : List (Int32 × Int32)) (o : Option Tg) (D : Int32 × Int32) (z : Sum (Int32 × Int32) (Nat × List (Int32 × Int32) × List Int32)) (x : Option Mm) (ν' : Mm) : Prop := match z with
  | Sum.inl e => x = some ν' ∧ DdR e ν'
  | Sum.inr s => x = fX12_tellRow_L235 F (nI q) v2 v3 (flR (obl s.2.1 o)) (atR (obl s.2.1 o)) ν' ∧ LR K N s.1 ν' ∧ RwR ν' q (ms ++ s.2.1) ∧ DoR (lmW D s.2.2) ν'
theorem MVR_s {F N q : Nat} {K : Nat → Tk} {v2 v3 : Int32} {ms : List (Int32 × Int32)} {o : Option Tg} {D : Int32 × Int32} {w : Int32 × Int32} {ws : List Int32} {z : Sum (Int32 × Int32) (Nat × List (Int32 × Int32) × List Int32)} {x : Option Mm} {ν' : Mm} (h : MVR F K N q v2 v3 (ms ++ [w]) (obk w o) (lmW D ws) z x ν') : MVR F K N q v2 v3 ms o D (sbd z fun s => Sum.inr (s.1, w :: s.2.1, ws ++ s.2.2)) x ν' := by
  match z, h with
  | Sum.inl e, h => exact h
  | Sum.inr s, h =>
    obtain ⟨a1, a2, a3, a4⟩ := h
    refine ⟨?_, a2, ?_, ?_⟩
    · rw [a1, obl_c]
    · show RwR ν' q (ms ++ w :: s.2.1)
      rw [List.append_assoc] at a3
      exact a3
    · show DoR (lmW D (ws ++ s.2.2)) ν'
      unfold lmW at a4 ⊢
      rw [List.foldl_append]
      exact a4
theorem atR_0 {o : Option Tg} (h : ∀ u, o = some u → tV u) : (0 ≤ atR o ↔ o.isSome = true) := by
  cases o with
  | none => exact ⟨fun q => absurd q (by decide), fun q => absurd q (by decide)⟩
  | some u => exact ⟨fun _ => rfl, fun _ => by
      have := enc_nn (h u rfl)
      rw [i_lt, z0] at this
      show 0 ≤ enc u
      rw [i_0le]
      omega⟩
theorem mk_tV {w : Int32 × Int32} {o : Option Tg} (hw : mvw w) (h : ∀ u, o = some u → tV u) : ∀ u, obk w o = some u → tV u := fun u e => by
  cases o with
  | none => cases e
  | some v => exact tV_mk1W hw (h v rfl) e
theorem flR_mk {w : Int32 × Int32} {o : Option Tg} : (if (obk w o).isSome = true then flR o else 0) = flR (obk w o) := by
  cases o with
  | none => rfl
  | some u => rfl
/-- a MOVE is kept, and made -/
theorem p_187 {F q len : Nat} {K73 : Int32 → Int32 → Int32 → Int32 → Int32 → Mm → Option Mm} {v2 v3 : Int32} {o : Option Tg} {w : Int32 × Int32} {ν : Mm} (hq : q < 18) (hlen : len < 8) (hw : mvw w) (ho : ∀ u, o = some u → tV u) (h58 : gi ν 58 0 q = nI len) : fX12_tellRow_L187 F K73 (nI q) v2 v3 (flR o) (atR o) (nI (8 * q + len)) w.1 (nI (8 * q + len)) w.2 ν = K73 (nI q) v2 v3 (flR (obk w o)) (atR (obk w o)) (si (si ν 60 0 (8 * q + len) w.2) 58 0 q (nI (len + 1))) := by
  have hin : inb (nI (8 * q + len)) 144 = true := (nn_inb (by omega)).mpr (by omega)
  have hiq : inb (nI q) 18 = true := (nn_inb (by omega)).mpr hq
  have fin : ∀ (o' : Option Tg), (∀ u, o' = some u → tV u) → ∀ v4, (if o'.isSome = true then v4 else 0) = flR o' → fX12_tellRow_L212 F K73 (nI q) v2 v3 v4 (atR o') (si ν 60 0 (8 * q + len) w.2) = K73 (nI q) v2 v3 (flR o') (atR o') (si (si ν 60 0 (8 * q + len) w.2) 58 0 q (nI (len + 1))) := fun o' ho' v4 e4 => by
    have a0 := atR_0 ho'
    unfold fX12_tellRow_L212 fX12_tellRow_L222
    by_cases y : o'.isSome = true
    · rw [if_pos (a0.mpr y), if_pos hiq, nn_cl (by omega), gi_ne (by omega), h58, nn_s]
      rw [if_pos y] at e4
      rw [e4]
    · rw [if_neg (fun z => y (a0.mp z)), if_pos hiq, nn_cl (by omega), gi_ne (by omega), h58, nn_s]
      rw [if_neg y] at e4
      rw [← e4]
  unfold fX12_tellRow_L187
  rw [if_pos hin, nn_cl (by omega)]
  cases o with
  | none =>
    rw [if_neg (show ¬ 0 ≤ atR none by decide)]
    exact fin none (fun u e => by cases e) _ rfl
  | some u =>
    rw [if_pos ((atR_0 ho).mpr rfl), if_pos hin, gi_eq, show atR (some u) = enc u from rfl, p_madeByW hw (ho u rfl)]
    have tv := mk_tV hw ho
    have e4 := flR_mk (w := w) (o := some u)
    have qq := fin (obk w (some u)) tv (flR (some u)) e4
    rw [← qq]
    show bd2 (match mk1 w u with | some u => some (enc u, si ν 60 0 (8 * q + len) w.2) | none => some (-1, si ν 60 0 (8 * q + len) w.2)) _ = fX12_tellRow_L212 F K73 (nI q) v2 v3 (flR (some u)) (atR (mk1 w u)) (si ν 60 0 (8 * q + len) w.2)
    cases mk1 w u <;> rfl
theorem km_27 : ∀ k, k < 35 → ((km k < 27 ∨ 29 < km k) ↔ ¬ (7 ≤ k ∧ k ≤ 9)) := by decide +kernel
theorem km_m : ∀ k, k < 35 → 7 ≤ k → k ≤ 9 → (km k - 27 = nI (k - 7) ∧ (km k - 27 = 2 ↔ k = 9)) := by decide +kernel
theorem obl_0 {o : Option Tg} : obl [] o = o := by
  cases o <;> rfl
theorem RwR_add {q : Nat} {ms : List (Int32 × Int32)} {w : Int32 × Int32} {ν : Mm} (h : RwR ν q ms) (h59 : gi ν 59 0 (8 * q + ms.length) = w.1) : RwR (si (si ν 60 0 (8 * q + ms.length) w.2) 58 0 q (nI (ms.length + 1))) q (ms ++ [w]) := by
  refine ⟨by rw [gi_eq, List.length_append, List.length_singleton], fun j hj => ?_⟩
  simp only [List.length_append, List.length_cons, List.length_nil] at hj
  by_cases y : j < ms.length
  · rw [List.getElem_append_left y, gi_ne (by omega), gi_ne (by omega), gi_ne (by omega), gi_ne (by omega)]
    exact h.2 j y
  · obtain rfl : j = ms.length := by omega
    rw [List.getElem_append_right (Nat.le_refl _)]
    simp only [Nat.sub_self, List.getElem_cons_zero]
    rw [gi_ne (by omega), gi_ne (by omega), gi_ne (by omega), gi_eq]
    exact ⟨h59, rfl⟩
theorem LR_Rr {N t q : Nat} {K : Nat → Tk} {ν ν' : Mm} (h : fr (FRr q) Q0 ν ν') (r : LR K N t ν) : LR K N t ν' := LR_fr h ⟨by unfold FRr; omega, by unfold FRr; omega⟩ (fun c j h1 h2 => by unfold FRr; omega) r
theorem DdR_Rr {q : Nat} {e : Int32 × Int32} {ν ν' : Mm} (h : fr (FRr q) Q0 ν ν') (r : DdR e ν) : DdR e ν' := DdR_fr h (fun j hj => by unfold FRr; omega) r
theorem p_mvR {F N q : Nat} {K : Nat → Tk} {v2 v3 : Int32} (g : Gk K N) (hq : q < 18) : ∀ (n t m : Nat) (ms : List (Int32 × Int32)) (o : Option Tg) (D : Int32 × Int32) (ν : Mm), ms.length + n = 8 → n + 1 < m → LR K N t ν → RwR ν q ms → DoR D ν → (∀ u, o = some u → tV u) → ∃ ν', fr (FMr q) Q0 ν ν' ∧ MVR F K N q v2 v3 ms o D (mvg K n t) (fX12_tellRow_L73 F m (nI q) v2 v3 (flR o) (atR o) ν) ν'
  | n, t, 0, ms, o, D, ν, _, h, _, _, _, _ => absurd h (Nat.not_lt_zero _)
  | 0, t, m + 1, ms, o, D, ν, hn, hm, hl, hr, hd, ho => by
    have hN := g.1.1
    have tN := hl.2.2.2
    have k34 := g.2.1 t
    have k27 := km_27 (K t).1 (by omega)
    have hiq : inb (nI q) 18 = true := (nn_inb (by omega)).mpr hq
    rw [fX12_tellRow_L73, if_pos hl.1, hl.2.2.1, if_pos ((nn_inb (by omega)).mpr (by omega)), nn_cl (by omega), (hl.2.1 t tN).1]
    unfold mvg
    by_cases y : 7 ≤ tkd K t ∧ tkd K t ≤ 9
    · rw [if_neg (fun w => k27.mp (Or.inl w) y), if_neg (fun w => k27.mp (Or.inr w) y), if_pos y, if_pos hiq, nn_cl (by omega), hr.1]
      obtain ⟨ν1, a1, a2, a3⟩ := p_failR (F := F) (f := 2) g hl (Or.inr rfl)
      unfold fX12_roomFor fX12_roomFor_L10
      rw [if_pos (by rw [show ms.length = 8 by omega]; rfl), a1, bd1_s, if_neg (deadR a3).1, bd1_s, if_neg (deadR a3).2.1]
      exact ⟨ν1, fr_of a2 (fun c i j q => Or.inl q) (fun c q => q), rfl, a3⟩
    · rw [if_neg y]
      refine ⟨ν, fr_rfl, ?_, hl, by rw [List.append_nil]; exact hr, hd⟩
      rw [obl_0]
      by_cases y7 : km (K t).1 < 27
      · rw [if_pos y7]
      · rw [if_neg y7, if_pos ((k27.mpr y).resolve_left y7)]
  | n + 1, t, m + 1, ms, o, D, ν, hn, hm, hl, hr, hd, ho => by
    have hN := g.1.1
    have tN := hl.2.2.2
    have k34 := g.2.1 t
    obtain ⟨m, rfl⟩ : ∃ x, m = x + 1 := ⟨m - 1, by omega⟩
    have k27 := km_27 (K t).1 (by omega)
    have hiq : inb (nI q) 18 = true := (nn_inb (by omega)).mpr hq
    rw [fX12_tellRow_L73, if_pos hl.1, hl.2.2.1, if_pos ((nn_inb (by omega)).mpr (by omega)), nn_cl (by omega), (hl.2.1 t tN).1]
    unfold mvg
    by_cases y : 7 ≤ tkd K t ∧ tkd K t ≤ 9
    · have km7 := km_m (K t).1 (by omega) y.1 y.2
      rw [if_neg (fun w => k27.mp (Or.inl w) y), if_neg (fun w => k27.mp (Or.inr w) y), if_pos y, if_pos hiq, nn_cl (by omega), hr.1]
      obtain ⟨ν1, a1, a2, a3⟩ := p_goesR (F := F) g hl (by unfold tkd at y; omega)
      have adv0 : adv K t (tkd K t) = if t = 400 then Sum.inl (2, pl K t) else Sum.inr (t + 1) := by
        unfold adv
        rw [if_pos rfl]
      rw [← adv0] at a3
      unfold fX12_roomFor fX12_roomFor_L10
      rw [if_neg (show ¬ nI ms.length = 8 by rw [show (8 : Int32) = nI 8 from rfl, nn_inj (by omega) (by omega)]; omega), if_pos hl.1, a1, bd1_s, bd1_s]
      have f1 : fr (FMr q) Q0 ν ν1 := fr_of a2 (fun c i j q => Or.inl q) (fun c q => q)
      cases h1 : adv K t (tkd K t) with
      | inl e =>
        rw [h1] at a3
        rw [if_neg (deadR a3).2.1]
        exact ⟨ν1, f1, rfl, a3⟩
      | inr t1 =>
      rw [h1] at a3
      have r1 : RwR ν1 q ms := RwR_fr a2 (by omega) ⟨by unfold FB; omega, fun c j hc _ _ => by unfold FB; omega⟩ hr
      have d1 : DoR D ν1 := DoR_fr a2 ⟨by unfold FB; omega, by unfold FB; omega⟩ hd
      rw [a3.1, if_pos (by decide), show (8 : Int32) = nI 8 from rfl, nn_mul, nn_add, if_pos ((nn_inb (by omega)).mpr (by omega)), nn_cl (by omega), km7.1, sbd_r]
      generalize hν2 : si ν1 59 0 (8 * q + ms.length) (nI ((K t).1 - 7)) = ν2
      have f2 : fr (FRr q) Q0 ν1 ν2 := by
        rw [← hν2]
        exact fr_si (Or.inr ⟨Or.inl rfl, by omega, by omega⟩)
      have l2 := LR_Rr f2 a3
      have d2 : DoR D ν2 := DoR_fr f2 ⟨by unfold FRr; omega, by unfold FRr; omega⟩ d1
      have r2 : RwR ν2 q ms := ⟨by rw [← hν2, gi_ne (by omega)]; exact r1.1, fun j hj => by rw [← hν2, gi_ne (by omega), gi_ne (by omega)]; exact r1.2 j hj⟩
      have e59 : gi ν2 59 0 (8 * q + ms.length) = nI (tkd K t - 7) := by rw [← hν2, gi_eq]; rfl
      have g4 : ∀ (ν3 : Mm) (x : Int32), fr (FRr q) Q0 ν3 (si (si ν3 60 0 (8 * q + ms.length) x) 58 0 q (nI (ms.length + 1))) := fun ν3 x => fr_tr (fr_si (Or.inr ⟨Or.inr rfl, by omega, by omega⟩)) (fr_si (Or.inl ⟨rfl, rfl⟩))
      by_cases k9 : tkd K t = 9
      · rw [if_pos (show nI ((K t).1 - 7) = 2 by rw [show (K t).1 = 9 from k9]; rfl), if_pos k9]
        have e2 : nI ((K t).1 - 7) = 2 := by rw [show (K t).1 = 9 from k9]; rfl
        have e59' : gi ν2 59 0 (8 * q + ms.length) = ((2, 0) : Int32 × Int32).1 := by rw [e59]; exact e2
        rw [e2]
        rw [p_187 (F := F) (K73 := fun v1 v2 v3 v4 v5 μ => fX12_tellRow_L73 F (m + 1) v1 v2 v3 v4 v5 μ) (w := (2, 0)) hq (show ms.length < 8 by omega) (Or.inl rfl) ho r2.1]
        obtain ⟨ν', c1, c2⟩ := p_mvR (F := F) (v2 := v2) (v3 := v3) g hq n t1 (m + 1) (ms ++ [(2, 0)]) (obk (2, 0) o) D _ (by rw [List.length_append, List.length_singleton]; omega) (by omega) (LR_Rr (g4 ν2 0) l2) (RwR_add (w := (2, 0)) r2 e59') (DoR_fr (g4 ν2 0) ⟨by unfold FRr; omega, by unfold FRr; omega⟩ d2) (mk_tV (Or.inl rfl) ho)
        exact ⟨ν', fr_tr f1 (fr_tr (fr_of (fr_tr f2 (g4 ν2 0)) (fun c i j q => Or.inr (Or.inr q)) (fun c q => q)) c1), MVR_s (ws := []) c2⟩
      · have n2 : ¬ nI ((K t).1 - 7) = 2 := fun w => k9 (km7.2.mp (km7.1.trans w))
        rw [if_neg n2, if_neg k9]
        obtain ⟨ν3, x, b1, b2, b3, b4, b5⟩ := p_boR (F := F) g l2 d2
        have r3 : RwR ν3 q ms := RwR_fr b2 (by omega) ⟨by unfold FB FDo; omega, fun c j hc _ _ => by unfold FB FDo; omega⟩ r2
        have e59b : gi ν3 59 0 (8 * q + ms.length) = nI (tkd K t - 7) := (fr_n b2 (by unfold FB FDo; omega)).trans e59
        have hw : mvw (nI (tkd K t - 7), x) := by
          refine Or.inr ⟨?_, ?_⟩
          · rcases (show tkd K t = 7 ∨ tkd K t = 8 by omega) with w | w
            · rw [w]
              exact Or.inl rfl
            · rw [w]
              exact Or.inr rfl
          · show 0 ≤ x.toInt ∧ x.toInt ≤ 9999
            omega
        rw [b1, bd2_s]
        have e187 := p_187 (F := F) (K73 := fun v1 v2 v3 v4 v5 μ => fX12_tellRow_L73 F (m + 1) v1 v2 v3 v4 v5 μ) (v2 := v2) (v3 := v3) (o := o) (w := (nI (tkd K t - 7), x)) hq (show ms.length < 8 by omega) hw ho r3.1
        have f3 : fr (FMr q) Q0 ν (si (si ν3 60 0 (8 * q + ms.length) x) 58 0 q (nI (ms.length + 1))) := fr_tr f1 (fr_tr (fr_of f2 (fun c i j q => Or.inr (Or.inr q)) (fun c q => q)) (fr_tr (fr_of b2 (fun c i j q => by rcases q with q | q; exact Or.inl q; exact Or.inr (Or.inl q)) (fun c q => q)) (fr_of (g4 ν3 x) (fun c i j q => Or.inr (Or.inr q)) (fun c q => q))))
        show ∃ ν', fr (FMr q) Q0 ν ν' ∧ MVR F K N q v2 v3 ms o D _ (fX12_tellRow_L187 F (fun v1 v2 v3 v4 v5 μ => fX12_tellRow_L73 F (m + 1) v1 v2 v3 v4 v5 μ) (nI q) v2 v3 (flR o) (atR o) (nI (8 * q + ms.length)) (nI (tkd K t - 7), x).1 (nI (8 * q + ms.length)) (nI (tkd K t - 7), x).2 ν3) ν'
        rw [e187]
        cases h2 : adv K t1 23 with
        | inl e =>
          rw [h2] at b4
          have d4 := DdR_Rr (g4 ν3 x) b4
          refine ⟨_, f3, ?_, d4⟩
          exact p_73d d4
        | inr t2 =>
          rw [h2] at b4
          obtain ⟨ex, dx⟩ := b5 t2 h2
          subst ex
          rw [sbd_r]
          obtain ⟨ν', c1, c2⟩ := p_mvR (F := F) (v2 := v2) (v3 := v3) g hq n t2 (m + 1) (ms ++ [(nI (tkd K t - 7), (K t1).2.2.1)]) (obk (nI (tkd K t - 7), (K t1).2.2.1) o) _ _ (by rw [List.length_append, List.length_singleton]; omega) (by omega) (LR_Rr (g4 ν3 _) b4) (RwR_add (w := (nI (tkd K t - 7), (K t1).2.2.1)) r3 e59b) (DoR_fr (g4 ν3 _) ⟨by unfold FRr; omega, by unfold FRr; omega⟩ dx) (mk_tV hw ho)
          have c3 := MVR_s c2
          refine ⟨ν', fr_tr f3 c1, ?_⟩
          have ee : (fun s : Nat × List (Int32 × Int32) × List Int32 => (Sum.inr (s.1, (nI (tkd K t - 7), (K t1).2.2.1) :: s.2.1, (if (K t1).2.2.1 < 1 ∨ 9 < (K t1).2.2.1 then [pl K t1] else []) ++ s.2.2) : Sum (Int32 × Int32) (Nat × List (Int32 × Int32) × List Int32))) = fun r => Sum.inr (r.1, (nI (tkd K t - 7), (K t1).2.2.1) :: r.2.1, (if (K t1).2.2.1 < 1 ∨ 9 < (K t1).2.2.1 then pl K t1 :: r.2.2 else r.2.2)) := funext fun s => by
            split <;> rfl
          rw [ee] at c3
          exact c3
    · rw [if_neg y]
      refine ⟨ν, fr_rfl, ?_, hl, by rw [List.append_nil]; exact hr, hd⟩
      rw [obl_0]
      by_cases y7 : km (K t).1 < 27
      · rw [if_pos y7]
      · rw [if_neg y7, if_pos ((k27.mpr y).resolve_left y7)]
