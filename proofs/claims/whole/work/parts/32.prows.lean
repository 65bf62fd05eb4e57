/-! PURE: rows of MOVES -/
/-- so many MOVES, from the j-th on: whether they can be made, and where it stands then -/
def mkp (m : Nat → Int32 × Int32) : Nat → Nat → Tg → Bool × Tg
  | 0, _, t => (true, t)
  | n + 1, j, t => match mk1 (m j) t with
    | none => (false, t)
    | some u => mkp m n (j + 1) u
theorem mkp_s {m : Nat → Int32 × Int32} {n j : Nat} {t u : Tg} (h : mk1 (m j) t = some u) : mkp m (n + 1) j t = mkp m n (j + 1) u := by
  show (match mk1 (m j) t with
    | none => (false, t)
    | some u => mkp m n (j + 1) u) = _
  rw [h]
theorem mkp_n {m : Nat → Int32 × Int32} {n j : Nat} {t : Tg} (h : mk1 (m j) t = none) : mkp m (n + 1) j t = (false, t) := by
  show (match mk1 (m j) t with
    | none => (false, t)
    | some u => mkp m n (j + 1) u) = _
  rw [h]
theorem tV_mkp {m : Nat → Int32 × Int32} : ∀ (n j : Nat) (t : Tg), (∀ i, j ≤ i → i < j + n → mvok (m i)) → tV t → tV (mkp m n j t).2
  | 0, _, _, _, h => h
  | n + 1, j, t, hm, h => by
    cases e : mk1 (m j) t with
    | none =>
      rw [mkp_n e]
      exact h
    | some u =>
      rw [mkp_s e]
      exact tV_mkp n (j + 1) u (fun i h1 h2 => hm i (by omega) (by omega)) (tV_mk1 (hm j (by omega) (by omega)) h e)
def b01 (b : Bool) : Int32 := if b = true then 1 else 0
theorem p_makesL {F : Nat} {m : Nat → Int32 × Int32} {r i N : Nat} (hN : N ≤ 8) (hm : ∀ j, j < N → mvok (m j)) : ∀ (d n j : Nat) (μ : Mm), j + d = N → d < n → (∀ j, j < N → gi μ 25 r j = (m j).1 ∧ gi μ 26 r j = (m j).2) → tV (tgC μ i) → fX3_makes_L12 F n r i (nI N) (nI j) μ = some (b01 (mkp m d j (tgC μ i)).1, pt μ i (mkp m d j (tgC μ i)).2)
  | _, 0, _, _, _, h, _, _ => absurd h (Nat.not_lt_zero _)
  | 0, n + 1, j, μ, h1, _, _, _ => by
    rw [fX3_makes_L12, if_pos (by rw [nn_le (by omega) (by omega)]; omega)]
    show some (1, μ) = some (1, pt μ i (tgC μ i))
    rw [pt_same]
  | d + 1, n + 1, j, μ, h1, h2, hμ, hv => by
    rw [fX3_makes_L12, if_neg (by rw [nn_le (by omega) (by omega)]; omega), if_pos ((nn_inb (by omega)).mpr (by omega)), nn_cl (by omega), (hμ j (by omega)).1, (hμ j (by omega)).2, p_makes1 (hm j (by omega)) hv]
    cases e : mk1 (m j) (tgC μ i) with
    | none =>
      rw [mkp_n e, bd2_s, if_pos rfl]
      show some (0, μ) = some (0, pt μ i (tgC μ i))
      rw [pt_same]
    | some u =>
      rw [mkp_s e, bd2_s, if_neg (by decide), show nI j + 1 = nI (j + 1) from nn_add j 1, p_makesL hN hm d n (j + 1) (pt μ i u) (by omega) (by omega) (fun j hj => by simpa [pt, gi_si] using hμ j hj) (by rw [tgC_pt]; exact tV_mk1 (hm j (by omega)) hv e), tgC_pt, pt_pt]
theorem p_makes {F : Nat} {m : Nat → Int32 × Int32} {r i N : Nat} {a : Int32} {μ : Mm} (hF : 1000 ≤ F) (hN : N ≤ 8) (ha : mn a (gi μ 3 r 0) = nI N) (hm : ∀ j, j < N → mvok (m j)) (hμ : ∀ j, j < N → gi μ 25 r j = (m j).1 ∧ gi μ 26 r j = (m j).2) (hv : tV (tgC μ i)) : fX3_makes F r i a μ = some (b01 (mkp m N 0 (tgC μ i)).1, pt μ i (mkp m N 0 (tgC μ i)).2) := by
  unfold fX3_makes
  rw [ha]
  exact p_makesL hN hm N F 0 μ (by omega) (by omega) hμ hv
theorem p_rowAt {F : Nat} {ν : Mm} {S f : Nat} (hS : gi ν 12 0 18 = nI S) : fX12_rowAt F (nI f) ν = some (nI (9 * S + 4 + f), ν) := by
  unfold fX12_rowAt
  rw [hS, show (9 : Int32) = nI 9 from rfl, show (4 : Int32) = nI 4 from rfl, nn_mul, nn_add, nn_add]
def encO (x : Bool × Tg) : Int32 := if x.1 = true then enc x.2 else -1
theorem encO_s {t : Tg} : encO (true, t) = enc t := rfl
theorem enc_nn {t : Tg} (h : tV t) : ¬ enc t < 0 := by
  rw [i_lt, enc_toInt h, z0]
  obtain ⟨a1, a2, a3, a4, a5, a6⟩ := h
  omega
theorem p_calledL {F : Nat} {m : Nat → Int32 × Int32} {S f q N : Nat} {ν : Mm} (hN : N ≤ 8) (hq : q = 9 * S + 4 + f) (hq2 : q < 18) (hS : gi ν 12 0 18 = nI S) (hm : ∀ j, j < N → mvok (m j)) (hν : ∀ j, j < N → gi ν 59 0 (8 * q + j) = (m j).1 ∧ gi ν 60 0 (8 * q + j) = (m j).2) : ∀ (d n j : Nat) (t : Tg), j + d = N → d + 1 < n → tV t → fX12_calledBy_L13 F n (nI f) (nI N) (enc t) (nI (8 * q + j)) ν = some (encO (mkp m d j t), ν)
  | _, 0, _, _, _, h, _ => absurd h (Nat.not_lt_zero _)
  | 0, n + 1, j, t, h1, _, _ => by
    rw [fX12_calledBy_L13, p_rowAt hS, bd2_s, ← hq, show (8 : Int32) = nI 8 from rfl, nn_mul, nn_add, if_pos (by rw [nn_le (by omega) (by omega)]; omega)]
    rfl
  | d + 1, n + 1, j, t, h1, h2, hv => by
    rw [fX12_calledBy_L13, p_rowAt hS, bd2_s, ← hq, show (8 : Int32) = nI 8 from rfl, nn_mul, nn_add, if_neg (by rw [nn_le (by omega) (by omega)]; omega), if_neg (enc_nn hv), if_pos ((nn_inb (by omega)).mpr (by omega)), nn_cl (by omega), (hν j (by omega)).1, (hν j (by omega)).2, p_madeBy (hm j (by omega)) hv]
    cases e : mk1 (m j) t with
    | none =>
      rw [mkp_n e, bd2_s]
      obtain ⟨n', rfl⟩ : ∃ n', n = n' + 1 := ⟨n - 1, by omega⟩
      rw [fX12_calledBy_L13, p_rowAt hS, bd2_s, if_pos (show (-1 : Int32) < 0 by decide)]
      split <;> rfl
    | some u =>
      rw [mkp_s e, bd2_s, show nI (8 * q + j) + 1 = nI (8 * q + (j + 1)) from nn_add _ 1, p_calledL hN hq hq2 hS hm hν d n (j + 1) u (by omega) (by omega) (tV_mk1 (hm j (by omega)) hv e)]
theorem p_calledBy {F : Nat} {m : Nat → Int32 × Int32} {S f N : Nat} {ν : Mm} {t : Tg} (hF : 1000 ≤ F) (hN : N ≤ 8) (hq2 : 9 * S + 4 + f < 18) (hS : gi ν 12 0 18 = nI S) (hm : ∀ j, j < N → mvok (m j)) (hν : ∀ j, j < N → gi ν 59 0 (8 * (9 * S + 4 + f) + j) = (m j).1 ∧ gi ν 60 0 (8 * (9 * S + 4 + f) + j) = (m j).2) (hv : tV t) : fX12_calledBy F (enc t) (nI f) (nI N) ν = some (encO (mkp m N 0 t), ν) := by
  unfold fX12_calledBy
  rw [p_rowAt hS, bd2_s, show (8 : Int32) = nI 8 from rfl, nn_mul]
  exact p_calledL hN rfl hq2 hS hm hν N F 0 t (by omega) (by omega) hv
/-! TABLES -/
abbrev Tb : Type := Int32 × Int32 × Int32 × Int32
def tb1 (w : Int32 × Int32) (t : Tb) : Tb := if w.1 = 2 then (-t.2.2.1, -t.2.2.2, t.1, t.2.1) else
  (t.1 + (if w.1 = 0 then w.2 else -w.2) * t.2.2.1, t.2.1 + (if w.1 = 0 then w.2 else -w.2) * t.2.2.2, t.2.2.1, t.2.2.2)
def tbs (m : Nat → Int32 × Int32) : Nat → Nat → Tb → Tb
  | 0, _, t => t
  | n + 1, j, t => tbs m n (j + 1) (tb1 (m j) t)
def tb0 : Tb := (1, 0, 0, 1)
/-- the table of a class's row, the reference's table -/
def tbC (μ : Mm) (r : Nat) : Tb := (gi μ 6 r 0, gi μ 6 r 1, gi μ 6 r 2, gi μ 6 r 3)
def tbR (ν : Mm) : Tb := (gi ν 12 0 57, gi ν 12 0 58, gi ν 12 0 59, gi ν 12 0 60)
def ptb (ν : Mm) (t : Tb) : Mm := si (si (si (si ν 12 0 57 t.1) 12 0 58 t.2.1) 12 0 59 t.2.2.1) 12 0 60 t.2.2.2
