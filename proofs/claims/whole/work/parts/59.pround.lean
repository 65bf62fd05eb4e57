/-! PURE: a power comes back -/
theorem z_em {z m : Int} (h1 : -m < z) (h2 : z < m) (h : z % m = 0) : z = 0 := by
  rcases Int.lt_or_le z 0 with w | w
  · have e : (z + m) % m = z + m := Int.emod_eq_of_lt (by omega) (by omega)
    rw [Int.add_emod_right, h] at e
    omega
  · rw [Int.emod_eq_of_lt w h2] at h
    exact h
theorem em_inj {x y m : Int} (hx : 0 ≤ x ∧ x < m) (hy : 0 ≤ y ∧ y < m) {k : Int} (h : (k + x) % m = (k + y) % m) : x = y := by
  have := Int.emod_eq_emod_iff_emod_sub_eq_zero.mp h
  have e := z_em (z := k + x - (k + y)) (by omega) (by omega) this
  omega
def xyS (m : Nat) (t : Int) (u : Int × Int) : Int × Int := ((t * u.1 + u.2) % m, (-u.1) % m)
def xyI (m : Nat) (t : Int) : Nat → Int × Int
  | 0 => (0, 1)
  | n + 1 => xyS m t (xyI m t n)
def bx (m : Nat) (u : Int × Int) : Prop := (0 ≤ u.1 ∧ u.1 < m) ∧ 0 ≤ u.2 ∧ u.2 < m
theorem xy_bx {m : Nat} {t : Int} (hm : 2 ≤ m) : ∀ n, bx m (xyI m t n)
  | 0 => ⟨⟨Int.le_refl 0, by show (0 : Int) < m; omega⟩, by show (0 : Int) ≤ 1; decide, by show (1 : Int) < m; omega⟩
  | n + 1 => ⟨⟨Int.emod_nonneg _ (by omega), Int.emod_lt_of_pos _ (by omega)⟩, Int.emod_nonneg _ (by omega), Int.emod_lt_of_pos _ (by omega)⟩
theorem xyS_inj {m : Nat} {t : Int} {u v : Int × Int} (hu : bx m u) (hv : bx m v) (h : xyS m t u = xyS m t v) : u = v := by
  have h1 := congrArg Prod.fst h
  have h2 := congrArg Prod.snd h
  unfold xyS at h1 h2
  dsimp only at h1 h2
  have e1 : u.1 = v.1 := by
    have := Int.emod_eq_emod_iff_emod_sub_eq_zero.mp h2
    have e := z_em (z := -u.1 - -v.1) (by unfold bx at hu hv; omega) (by unfold bx at hu hv; omega) this
    omega
  rw [e1] at h1
  exact Prod.ext e1 (em_inj hu.2 hv.2 h1)
def xyC (m : Nat) (u : Int × Int) : Nat := m * u.1.toNat + u.2.toNat
theorem xyC_inj {m : Nat} {u v : Int × Int} (hm : 2 ≤ m) (hu : bx m u) (hv : bx m v) (h : xyC m u = xyC m v) : u = v := by
  obtain ⟨⟨u1, u2⟩, u3, u4⟩ := hu
  obtain ⟨⟨v1, v2⟩, v3, v4⟩ := hv
  unfold xyC at h
  have d := congrArg (· / m) h
  have r := congrArg (· % m) h
  simp only [Nat.mul_add_div (show 0 < m by omega), Nat.mul_add_mod, Nat.div_eq_of_lt (show u.2.toNat < m by omega), Nat.div_eq_of_lt (show v.2.toNat < m by omega), Nat.mod_eq_of_lt (show u.2.toNat < m by omega), Nat.mod_eq_of_lt (show v.2.toNat < m by omega)] at d r
  exact Prod.ext (by omega) (by omega)
theorem xyC_lt {m : Nat} {u : Int × Int} (hu : bx m u) : xyC m u < m * m := by
  obtain ⟨⟨u1, u2⟩, u3, u4⟩ := hu
  unfold xyC
  have h1 : m * (u.1.toNat + 1) ≤ m * m := Nat.mul_le_mul_left m (by omega)
  rw [Nat.mul_add, Nat.mul_one] at h1
  omega
theorem xy_per {m : Nat} {t : Int} (hm : 2 ≤ m) : ∃ N, 1 ≤ N ∧ N ≤ m * m ∧ xyI m t N = (0, 1) := by
  have dup : ∃ i j, i < j ∧ j ≤ m * m ∧ xyI m t i = xyI m t j := Classical.byContradiction (fun hn => by
    have nd : ((List.range (m * m + 1)).map (fun n => xyC m (xyI m t n))).Nodup := List.pairwise_iff_getElem.mpr (fun i j hi hj hij e => by
      simp only [List.length_map, List.length_range] at hi hj
      simp only [List.getElem_map, List.getElem_range] at e
      exact hn ⟨i, j, hij, by omega, xyC_inj hm (xy_bx hm i) (xy_bx hm j) e⟩)
    have := pig _ (List.range (m * m)) nd (fun x hx => by
      obtain ⟨n, _, rfl⟩ := List.mem_map.mp hx
      exact List.mem_range.mpr (xyC_lt (xy_bx hm n)))
    simp only [List.length_map, List.length_range] at this
    omega)
  have back : ∀ i d, xyI m t i = xyI m t (i + d) → xyI m t 0 = xyI m t d := fun i d => by
    induction i with
    | zero =>
      intro h
      rw [Nat.zero_add] at h
      exact h
    | succ i ih =>
      intro h
      rw [show i + 1 + d = (i + d) + 1 by omega] at h
      exact ih (xyS_inj (xy_bx hm i) (xy_bx hm (i + d)) h)
  obtain ⟨i, j, h1, h2, h3⟩ := dup
  refine ⟨j - i, by omega, by omega, ?_⟩
  have := back i (j - i) (by rw [h3, show i + (j - i) = j by omega])
  exact this.symm
/-- P is x T and y -/
def rel (m : Nat) (T P : Tb) (u : Int × Int) : Prop := ∃ k1 k2 k3 k4 : Int, P.1.toInt = u.1 * T.1.toInt + u.2 + m * k1 ∧ P.2.1.toInt = u.1 * T.2.1.toInt + m * k2 ∧ P.2.2.1.toInt = u.1 * T.2.2.1.toInt + m * k3 ∧ P.2.2.2.toInt = u.1 * T.2.2.2.toInt + u.2 + m * k4
theorem em_w (z m : Int) : ∃ k, z % m = z + m * k := ⟨-(z / m), by rw [Int.emod_def, Int.mul_neg]; omega⟩
theorem rl_1 (a b c d x y M k1 k3 w1 q r : Int) (hx : x * a * d - x * b * c = x) : a * (x * a + y + M * k1) + b * (x * c + M * k3) + M * w1 = ((a + d) * x + y + M * q) * a + (-x + M * r) + M * (a * k1 + b * k3 + w1 - q * a - r) := by grind
theorem rl_2 (a b d x y M k2 k4 w2 q : Int) : a * (x * b + M * k2) + b * (x * d + y + M * k4) + M * w2 = ((a + d) * x + y + M * q) * b + M * (a * k2 + b * k4 + w2 - q * b) := by grind
theorem rl_3 (a c d x y M k1 k3 w3 q : Int) : c * (x * a + y + M * k1) + d * (x * c + M * k3) + M * w3 = ((a + d) * x + y + M * q) * c + M * (c * k1 + d * k3 + w3 - q * c) := by grind
theorem rl_4 (a b c d x y M k2 k4 w4 q r : Int) (hx : x * a * d - x * b * c = x) : c * (x * b + M * k2) + d * (x * d + y + M * k4) + M * w4 = ((a + d) * x + y + M * q) * d + (-x + M * r) + M * (c * k2 + d * k4 + w4 - q * d - r) := by grind
theorem rel_s {m : Nat} {T P : Tb} {u : Int × Int} (h1 : 0 < m) (h2 : m < 2147483648) (hT : tOk T) (h : rel m T P u) : rel m T (rmT m (iT T P)) (xyS m (T.1.toInt + T.2.2.2.toInt) u) := by
  obtain ⟨k1, k2, k3, k4, e1, e2, e3, e4⟩ := h
  unfold tOk at hT
  unfold rel rmT iT xyS
  dsimp only
  rw [(rm_i h1 h2 _).1, (rm_i h1 h2 _).1, (rm_i h1 h2 _).1, (rm_i h1 h2 _).1, e1, e2, e3, e4]
  generalize T.1.toInt = a at *
  generalize T.2.1.toInt = b at *
  generalize T.2.2.1.toInt = c at *
  generalize T.2.2.2.toInt = d at *
  generalize u.1 = x at *
  generalize u.2 = y at *
  generalize (m : Int) = M at *
  have hx : x * a * d - x * b * c = x := by rw [Int.mul_assoc, Int.mul_assoc, ← Int.mul_sub, hT, Int.mul_one]
  obtain ⟨q, hq⟩ := em_w ((a + d) * x + y) M
  obtain ⟨r, hr⟩ := em_w (-x) M
  obtain ⟨w1, g1⟩ := em_w (a * (x * a + y + M * k1) + b * (x * c + M * k3)) M
  obtain ⟨w2, g2⟩ := em_w (a * (x * b + M * k2) + b * (x * d + y + M * k4)) M
  obtain ⟨w3, g3⟩ := em_w (c * (x * a + y + M * k1) + d * (x * c + M * k3)) M
  obtain ⟨w4, g4⟩ := em_w (c * (x * b + M * k2) + d * (x * d + y + M * k4)) M
  rw [hq, hr, g1, g2, g3, g4]
  refine ⟨a * k1 + b * k3 + w1 - q * a - r, a * k2 + b * k4 + w2 - q * b, c * k1 + d * k3 + w3 - q * c, c * k2 + d * k4 + w4 - q * d - r, rl_1 _ _ _ _ _ _ _ _ _ _ _ _ hx, rl_2 _ _ _ _ _ _ _ _ _ _, rl_3 _ _ _ _ _ _ _ _ _ _, rl_4 _ _ _ _ _ _ _ _ _ _ _ _ hx⟩
theorem rel_1 {m : Nat} {T : Tb} {z : Int × Int × Int × Int} (h1 : 2 ≤ m) (h2 : m < 2147483648) (h : rel m T (rmT m z) (0, 1)) : rmT m z = (1, 0, 0, 1) := by
  obtain ⟨k1, k2, k3, k4, e1, e2, e3, e4⟩ := h
  have k := fun z => rm_i (m := m) (by omega) h2 z
  unfold rmT at e1 e2 e3 e4 ⊢
  dsimp only at e1 e2 e3 e4
  have a : ∀ (v K T : Int), (rm m v).toInt = 0 * T + 1 + m * K → rm m v = 1 := fun v K T e => by
    obtain ⟨x1, x2, x3⟩ := k v
    rw [Int.zero_mul, Int.zero_add] at e
    have f : (rm m v).toInt % (m : Int) = 1 := by
      rw [e, Int.add_mul_emod_self_left, Int.emod_eq_of_lt (by omega) (by omega)]
    rw [x1, Int.emod_eq_of_lt x2 x3, ← x1] at f
    exact i_eq.mpr f
  have b : ∀ (v K T : Int), (rm m v).toInt = 0 * T + m * K → rm m v = 0 := fun v K T e => by
    obtain ⟨x1, x2, x3⟩ := k v
    rw [Int.zero_mul, Int.zero_add] at e
    have f : (rm m v).toInt % (m : Int) = 0 := by
      rw [e, Int.mul_emod_right]
    rw [x1, Int.emod_eq_of_lt x2 x3, ← x1] at f
    exact i_eq0.mpr f
  exact tb_ext (a _ _ _ e1) (b _ _ _ e2) (b _ _ _ e3) (a _ _ _ e4)
