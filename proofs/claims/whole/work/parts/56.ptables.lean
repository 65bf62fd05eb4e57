/-! PURE: TABLES -/
def mT (B A : Tb) : Tb := (B.1 * A.1 + B.2.1 * A.2.2.1, B.1 * A.2.1 + B.2.1 * A.2.2.2, B.2.2.1 * A.1 + B.2.2.2 * A.2.2.1, B.2.2.1 * A.2.1 + B.2.2.2 * A.2.2.2)
theorem tb_ext {A B : Tb} (h1 : A.1 = B.1) (h2 : A.2.1 = B.2.1) (h3 : A.2.2.1 = B.2.2.1) (h4 : A.2.2.2 = B.2.2.2) : A = B := Prod.ext h1 (Prod.ext h2 (Prod.ext h3 h4))
theorem mT_0 (B : Tb) : mT B tb0 = B := by
  obtain ⟨a, b, c, d⟩ := B
  unfold mT tb0
  refine tb_ext ?_ ?_ ?_ ?_ <;> dsimp only <;> grind
theorem mT_1 (A t : Tb) (w : Int32 × Int32) : mT A (tb1 w t) = mT (mT A (tb1 w tb0)) t := by
  obtain ⟨a, b, c, d⟩ := A
  obtain ⟨x, y, z, u⟩ := t
  unfold tb1
  by_cases h : w.1 = 2
  · rw [if_pos h, if_pos h]
    unfold mT tb0
    refine tb_ext ?_ ?_ ?_ ?_ <;> dsimp only <;> grind
  · rw [if_neg h, if_neg h]
    unfold mT tb0
    generalize (if w.1 = 0 then w.2 else -w.2) = k
    refine tb_ext ?_ ?_ ?_ ?_ <;> dsimp only <;> grind
theorem tbs_m {m : Nat → Int32 × Int32} : ∀ (n j : Nat) (t : Tb), tbs m n j t = mT (tbs m n j tb0) t
  | 0, j, t => by
    obtain ⟨x, y, z, u⟩ := t
    unfold tbs mT tb0
    refine tb_ext ?_ ?_ ?_ ?_ <;> dsimp only <;> grind
  | n + 1, j, t => by
    show tbs m n (j + 1) (tb1 (m j) t) = mT (tbs m n (j + 1) (tb1 (m j) tb0)) t
    rw [tbs_m n (j + 1) (tb1 (m j) t), tbs_m n (j + 1) (tb1 (m j) tb0), mT_1]
/-! how great -/
def gmx : Nat → Nat → Nat → Nat
  | 0, u, v => max u v
  | n + 1, u, v => max (gmx n v u) (gmx n (u + 9 * v) v)
theorem gmx_8 : gmx 8 1 0 ≤ 13528 ∧ gmx 8 0 1 ≤ 13528 := by decide +kernel
theorem gmx_16 : gmx 16 1 0 ≤ 93167335 ∧ gmx 16 0 1 ≤ 93167335 := by decide +kernel
theorem gmx_le : ∀ (n u v : Nat), u ≤ gmx n u v ∧ v ≤ gmx n u v
  | 0, u, v => ⟨Nat.le_max_left _ _, Nat.le_max_right _ _⟩
  | n + 1, u, v => by
    have h := gmx_le n v u
    unfold gmx
    omega
theorem gmx_mono : ∀ (n u v u' v' : Nat), u ≤ u' → v ≤ v' → gmx n u v ≤ gmx n u' v'
  | 0, u, v, u', v', h1, h2 => by
    unfold gmx
    omega
  | n + 1, u, v, u', v', h1, h2 => by
    have a := gmx_mono n v u v' u' h2 h1
    have b := gmx_mono n (u + 9 * v) v (u' + 9 * v') v' (by omega) h2
    unfold gmx
    omega
theorem gmx_n {n N u v : Nat} (h : n ≤ N) : gmx n u v ≤ gmx N u v := by
  induction N generalizing n u v with
  | zero =>
    rw [show n = 0 by omega]
    exact Nat.le_refl _
  | succ N ih =>
    match n with
    | 0 =>
      have := gmx_le (N + 1) u v
      unfold gmx at *
      omega
    | n + 1 =>
      have a := ih (n := n) (u := v) (v := u) (by omega)
      have b := ih (n := n) (u := u + 9 * v) (v := v) (by omega)
      unfold gmx
      omega
/-- entries in bounds B after what is left, and determinant 1 -/
def tOk (t : Tb) : Prop := t.1.toInt * t.2.2.2.toInt - t.2.1.toInt * t.2.2.1.toInt = 1
def tBd (n B : Nat) (t : Tb) : Prop := gmx n t.1.toInt.natAbs t.2.2.1.toInt.natAbs ≤ B ∧ gmx n t.2.1.toInt.natAbs t.2.2.2.toInt.natAbs ≤ B
theorem tw_b {a c w : Int32} {k : Int} {n B : Nat} (hk : w.toInt = k) (h9 : k.natAbs ≤ 9) (hB : B < 2147483648) (h : gmx (n + 1) a.toInt.natAbs c.toInt.natAbs ≤ B) : (a + w * c).toInt = a.toInt + k * c.toInt ∧ gmx n (a + w * c).toInt.natAbs c.toInt.natAbs ≤ B := by
  have h1 : gmx n (a.toInt.natAbs + 9 * c.toInt.natAbs) c.toInt.natAbs ≤ B := by
    unfold gmx at h
    omega
  have h2 := gmx_le n (a.toInt.natAbs + 9 * c.toInt.natAbs) c.toInt.natAbs
  have m : (k * c.toInt).natAbs ≤ 9 * c.toInt.natAbs := by
    rw [Int.natAbs_mul]
    exact Nat.mul_le_mul_right _ h9
  have e1 : (w * c).toInt = k * c.toInt := by
    rw [tz_mul (by rw [hk]; omega), hk]
  have e2 : (a + w * c).toInt = a.toInt + k * c.toInt := by
    rw [tz_add (by rw [e1]; omega), e1]
  refine ⟨e2, ?_⟩
  rw [e2]
  exact Nat.le_trans (gmx_mono n _ _ _ _ (by omega) (Nat.le_refl _)) h1
theorem tb1_ok {w : Int32 × Int32} {t : Tb} {n B : Nat} (hw : mvok w) (hB : B < 2147483648) (h : tOk t) (hb : tBd (n + 1) B t) : tOk (tb1 w t) ∧ tBd n B (tb1 w t) := by
  obtain ⟨b1, b2⟩ := hb
  unfold tb1
  by_cases h2 : w.1 = 2
  · rw [if_pos h2]
    have l1 := gmx_le (n + 1) t.1.toInt.natAbs t.2.2.1.toInt.natAbs
    have l2 := gmx_le (n + 1) t.2.1.toInt.natAbs t.2.2.2.toInt.natAbs
    have n1 : (-t.2.2.1).toInt = -t.2.2.1.toInt := tz_neg (by omega)
    have n2 : (-t.2.2.2).toInt = -t.2.2.2.toInt := tz_neg (by omega)
    constructor
    · unfold tOk at *
      show (-t.2.2.1).toInt * t.2.1.toInt - (-t.2.2.2).toInt * t.1.toInt = 1
      rw [n1, n2, ← h]
      grind
    · unfold tBd
      show gmx n (-t.2.2.1).toInt.natAbs t.1.toInt.natAbs ≤ B ∧ gmx n (-t.2.2.2).toInt.natAbs t.2.1.toInt.natAbs ≤ B
      rw [n1, n2, Int.natAbs_neg, Int.natAbs_neg]
      unfold gmx at b1 b2
      omega
  · rw [if_neg h2]
    rcases hw with hw | ⟨_, w1, w2⟩
    · exact absurd hw h2
    obtain ⟨k, hk, h9⟩ : ∃ k : Int, (if w.1 = 0 then w.2 else -w.2).toInt = k ∧ k.natAbs ≤ 9 := by
      by_cases z : w.1 = 0
      · exact ⟨_, by rw [if_pos z], by omega⟩
      · exact ⟨-w.2.toInt, by rw [if_neg z, tz_neg (by omega)], by omega⟩
    generalize (if w.1 = 0 then w.2 else -w.2) = v at *
    obtain ⟨e1, e2⟩ := tw_b (a := t.1) (c := t.2.2.1) hk h9 hB b1
    obtain ⟨e3, e4⟩ := tw_b (a := t.2.1) (c := t.2.2.2) hk h9 hB b2
    refine ⟨?_, e2, e4⟩
    unfold tOk at *
    show (t.1 + v * t.2.2.1).toInt * t.2.2.2.toInt - (t.2.1 + v * t.2.2.2).toInt * t.2.2.1.toInt = 1
    rw [e1, e3, ← h]
    grind
theorem tbs_ok {m : Nat → Int32 × Int32} {B : Nat} (hB : B < 2147483648) : ∀ (n N j : Nat) (t : Tb), (∀ i, j ≤ i → i < j + n → mvok (m i)) → tOk t → tBd (n + N) B t → tOk (tbs m n j t) ∧ tBd N B (tbs m n j t)
  | 0, N, j, t, _, h, hb => ⟨h, by rw [Nat.zero_add] at hb; exact hb⟩
  | n + 1, N, j, t, hm, h, hb => by
    rw [show n + 1 + N = (n + N) + 1 by omega] at hb
    obtain ⟨a, b⟩ := tb1_ok (hm j (Nat.le_refl _) (by omega)) hB h hb
    exact tbs_ok hB n N (j + 1) _ (fun i h1 h2 => hm i (by omega) (by omega)) a b
theorem tb0_ok : tOk tb0 := by
  unfold tOk tb0
  decide
/-- the table of a figure -/
def tF (X : Xt) (f : Nat) : Tb := tbs (xv X f) (xl X f) 0 tb0
theorem tF_ok {X : Xt} {f N : Nat} (hX : Xok X) (hf : f < xm X) (hN : N ≤ 8) : tOk (tF X f) ∧ tBd N 93167335 (tF X f) := by
  obtain ⟨x1, x2⟩ := hX.2.2.1 f hf
  refine tbs_ok (by decide) (xl X f) N 0 tb0 (fun i _ hi => x2 i (by omega)) tb0_ok ⟨?_, ?_⟩
  · exact Nat.le_trans (gmx_n (N := 16) (by omega)) gmx_16.1
  · exact Nat.le_trans (gmx_n (N := 16) (by omega)) gmx_16.2
theorem tF_b {X : Xt} {f : Nat} (hX : Xok X) (hf : f < xm X) : tOk (tF X f) ∧ tBd 0 13528 (tF X f) := by
  obtain ⟨x1, x2⟩ := hX.2.2.1 f hf
  refine tbs_ok (by decide) (xl X f) 0 0 tb0 (fun i _ hi => x2 i (by omega)) tb0_ok ⟨?_, ?_⟩
  · exact Nat.le_trans (gmx_n (N := 8) (by omega)) gmx_8.1
  · exact Nat.le_trans (gmx_n (N := 8) (by omega)) gmx_8.2
theorem tFF_ok {X : Xt} {f g : Nat} (hX : Xok X) (hf : f < xm X) (hg : g < xm X) : tOk (mT (tF X g) (tF X f)) ∧ tBd 0 93167335 (mT (tF X g) (tF X f)) := by
  obtain ⟨x1, x2⟩ := hX.2.2.1 g hg
  obtain ⟨a, b⟩ := tF_ok (N := xl X g) hX hf x1
  have := tbs_ok (by decide) (xl X g) 0 0 (tF X f) (fun i _ hi => x2 i (by omega)) a b
  rw [tbs_m] at this
  exact this
theorem tBd_0 {t : Tb} {B : Nat} (h : tBd 0 B t) : t.1.toInt.natAbs ≤ B ∧ t.2.1.toInt.natAbs ≤ B ∧ t.2.2.1.toInt.natAbs ≤ B ∧ t.2.2.2.toInt.natAbs ≤ B := by
  obtain ⟨h1, h2⟩ := h
  unfold gmx at h1 h2
  omega
theorem tOk_z {t : Tb} (h : tOk t) : ¬ (t.1 = 0 ∧ t.2.1 = 0) := fun z => by
  unfold tOk at h
  rw [z.1, z.2, z0, Int.zero_mul, Int.zero_mul] at h
  omega
theorem tOk_d {t : Tb} (h : tOk t) (hb : t.2.1 = 0) (hc : t.2.2.1 = 0) : t.1 = t.2.2.2 ∧ (t.1.toInt = 1 ∨ t.1.toInt = -1) := by
  unfold tOk at h
  rw [hb, hc, z0, Int.zero_mul, Int.sub_zero] at h
  have hn : t.1.toInt.natAbs = 1 := by
    have := congrArg Int.natAbs h
    rw [Int.natAbs_mul] at this
    exact Nat.eq_one_of_mul_eq_one_right this
  rcases (show t.1.toInt = 1 ∨ t.1.toInt = -1 by omega) with e | e
  · rw [e, Int.one_mul] at h
    exact ⟨i_eq.mpr (by omega), Or.inl e⟩
  · rw [e] at h
    exact ⟨i_eq.mpr (by omega), Or.inr e⟩
/-! both sides' tables -/
theorem ptb_gi {ν : Mm} {t : Tb} {c i j : Nat} (h : ¬ (c = 12 ∧ 57 ≤ j ∧ j ≤ 60)) : gi (ptb ν t) c i j = gi ν c i j := by
  unfold ptb
  rw [gi_ne (by omega), gi_ne (by omega), gi_ne (by omega), gi_ne (by omega)]
theorem tbR_ptb {ν : Mm} {t : Tb} : tbR (ptb ν t) = t := by
  unfold tbR ptb
  refine tb_ext ?_ ?_ ?_ ?_ <;> dsimp only
  · rw [gi_ne (by omega), gi_ne (by omega), gi_ne (by omega), gi_eq]
  · rw [gi_ne (by omega), gi_ne (by omega), gi_eq]
  · rw [gi_ne (by omega), gi_eq]
  · rw [gi_eq]
theorem ptb_same {ν : Mm} : ptb ν (tbR ν) = ν := by
  unfold ptb tbR
  dsimp only
  rw [si_same, si_same, si_same, si_same]
theorem si_ptb {ν : Mm} {a b c d : Int32} : si (si (si (si ν 12 0 57 a) 12 0 58 b) 12 0 59 c) 12 0 60 d = ptb ν (a, b, c, d) := rfl
theorem ptb_ext {ν ν' : Mm} {t : Tb} (h1 : ∀ c i j, ¬ (c = 12 ∧ i = 0 ∧ 57 ≤ j ∧ j ≤ 60) → gi ν' c i j = gi ν c i j) (h2 : ∀ c i j, gj ν' c i j = gj ν c i j) (h3 : tbR ν' = t) : ν' = ptb ν t := by
  subst h3
  refine mm_ext (fun c i j => ?_) (fun c i j => h2 c i j)
  unfold ptb tbR
  dsimp only
  simp only [gi_si]
  by_cases e4 : c = 12 ∧ i = 0 ∧ j = 60
  · obtain ⟨rfl, rfl, rfl⟩ := e4
    rw [if_pos ⟨rfl, rfl, rfl⟩]
  rw [if_neg e4]
  by_cases e3 : c = 12 ∧ i = 0 ∧ j = 59
  · obtain ⟨rfl, rfl, rfl⟩ := e3
    rw [if_pos ⟨rfl, rfl, rfl⟩]
  rw [if_neg e3]
  by_cases e2 : c = 12 ∧ i = 0 ∧ j = 58
  · obtain ⟨rfl, rfl, rfl⟩ := e2
    rw [if_pos ⟨rfl, rfl, rfl⟩]
  rw [if_neg e2]
  by_cases e1 : c = 12 ∧ i = 0 ∧ j = 57
  · obtain ⟨rfl, rfl, rfl⟩ := e1
    rw [if_pos ⟨rfl, rfl, rfl⟩]
  rw [if_neg e1]
  exact h1 c i j (by omega)
theorem ptb_ptb {ν : Mm} {t s : Tb} : ptb (ptb ν t) s = ptb ν s := by
  refine ptb_ext (fun c i j h => ?_) (fun _ _ _ => rfl) tbR_ptb
  unfold ptb
  rw [gi_ne (by omega), gi_ne (by omega), gi_ne (by omega), gi_ne (by omega), gi_ne (by omega), gi_ne (by omega), gi_ne (by omega), gi_ne (by omega)]
theorem RT_ptb {ν : Mm} {t : Tb} {S : Nat} {X : Xt} (q : RT ν S X) : RT (ptb ν t) S X := RT_of (fun c j g1 g2 => ptb_gi (by omega)) q
theorem ag_ptb {ν : Mm} {t : Tb} : ag SR ν (ptb ν t) := ⟨fun c i j w => ptb_gi (by unfold SR at w; omega), fun _ _ _ => rfl⟩
theorem p_tonL {F S f : Nat} {X : Xt} (hS2 : S < 2) (hX : Xok X) (hf : f < xm X) : ∀ (d n j : Nat) (ν : Mm), j + d = xl X f → d < n → gi ν 12 0 18 = nI S → RT ν S X → fX12_tablesOn_L9 F n (nI f) (nI (8 * (9 * S + 4 + f) + j)) ν = some (ptb ν (tbs (xv X f) d j (tbR ν)))
  | _, 0, _, _, _, h, _, _ => absurd h (Nat.not_lt_zero _)
  | 0, n + 1, j, ν, h1, h2, hS, hR => by
    have x1 := (hX.2.2.1 f hf).1
    have := hX.2.1
    rw [fX12_tablesOn_L9, p_rowAt hS, bd2_s, p_movesOf hS hS2 hX hR hf, bd2_s, show (8 : Int32) = nI 8 from rfl, nn_mul, nn_add, if_pos (by rw [nn_le (by omega) (by omega)]; omega)]
    show _ = some (ptb ν (tbR ν))
    rw [ptb_same]
  | d + 1, n + 1, j, ν, h1, h2, hS, hR => by
    have x1 := (hX.2.2.1 f hf).1
    have x2 := (hX.2.2.1 f hf).2 j (by omega)
    have := hX.2.1
    obtain ⟨m1, m2⟩ := (hR.2.2.2.1 f hf).2 j (by omega)
    rw [fX12_tablesOn_L9, p_rowAt hS, bd2_s, p_movesOf hS hS2 hX hR hf, bd2_s, show (8 : Int32) = nI 8 from rfl, nn_mul, nn_add, if_neg (by rw [nn_le (by omega) (by omega)]; omega), if_pos ((nn_inb (by omega)).mpr (by omega)), nn_cl (by omega), m1, m2]
    unfold fX12_tablesOn_L105 fX12_tablesOn_L134
    have hrec : fX12_tablesOn_L9 F n (nI f) (nI (8 * (9 * S + 4 + f) + (j + 1))) (ptb ν (tb1 (xv X f j) (tbR ν))) = some (ptb ν (tbs (xv X f) (d + 1) j (tbR ν))) := by
      rw [p_tonL hS2 hX hf d n (j + 1) _ (by omega) (by omega) ((ptb_gi (by omega)).trans hS) (RT_ptb hR), tbR_ptb, ptb_ptb]
      rfl
    rw [← hrec, nn_s]
    unfold tb1
    by_cases w : (xv X f j).1 = 2
    · rw [if_pos w, if_pos w, gi_ne (c := 12) (j := 57) (j' := 60) (by omega), si_ptb]
      rfl
    · rw [if_neg w, if_neg w]
      have e : ∀ k : Int32, si (si ν 12 0 57 (gi ν 12 0 57 + k * gi ν 12 0 59)) 12 0 58 (gi ν 12 0 58 + k * gi (si ν 12 0 57 (gi ν 12 0 57 + k * gi ν 12 0 59)) 12 0 60) = ptb ν ((tbR ν).1 + k * (tbR ν).2.2.1, (tbR ν).2.1 + k * (tbR ν).2.2.2, (tbR ν).2.2.1, (tbR ν).2.2.2) := fun k => by
        rw [gi_ne (c := 12) (j := 57) (j' := 60) (by omega)]
        refine ptb_ext (fun c i j h => ?_) (fun _ _ _ => rfl) (tb_ext ?_ ?_ ?_ ?_)
        · rw [gi_ne (by omega), gi_ne (by omega)]
        · unfold tbR
          dsimp only
          rw [gi_ne (by omega), gi_eq]
        · unfold tbR
          dsimp only
          rw [gi_eq]
        · unfold tbR
          dsimp only
          rw [gi_ne (by omega), gi_ne (by omega)]
        · unfold tbR
          dsimp only
          rw [gi_ne (by omega), gi_ne (by omega)]
      by_cases z : (xv X f j).1 = 0
      · rw [if_pos z, if_pos z, e]
        rfl
      · rw [if_neg z, if_neg z, e]
        rfl
theorem p_ton {F S f : Nat} {X : Xt} {ν : Mm} (hF : 1000 ≤ F) (hS2 : S < 2) (hX : Xok X) (hf : f < xm X) (hS : gi ν 12 0 18 = nI S) (hR : RT ν S X) : fX12_tablesOn F (nI f) ν = some (ptb ν (mT (tF X f) (tbR ν))) := by
  have x1 := (hX.2.2.1 f hf).1
  unfold fX12_tablesOn tF
  rw [p_rowAt hS, bd2_s, show (8 : Int32) = nI 8 from rfl, nn_mul, ← tbs_m]
  exact p_tonL hS2 hX hf (xl X f) F 0 ν (by omega) (by omega) hS hR
theorem p_tof {F S f : Nat} {X : Xt} {ν : Mm} (hF : 1000 ≤ F) (hS2 : S < 2) (hX : Xok X) (hf : f < xm X) (hS : gi ν 12 0 18 = nI S) (hR : RT ν S X) : fX12_tableOf F (nI f) ν = some (ptb ν (tF X f)) := by
  unfold fX12_tableOf fX12_noTable
  rw [bd1_s, si_ptb, p_ton hF hS2 hX hf ((ptb_gi (by omega)).trans hS) (RT_ptb hR), bd1_s, tbR_ptb, ptb_ptb, show ((1, 0, 0, 1) : Tb) = tb0 from rfl, mT_0]
