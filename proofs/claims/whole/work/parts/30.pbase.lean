/-! PURE, the ground: reads over writes, ints, blocks -/
theorem gi_si {μ : Mm} {c i j c' i' j' : Nat} {v : Int32} : gi (si μ c i j v) c' i' j' = if c' = c ∧ i' = i ∧ j' = j then v else gi μ c' i' j' := rfl
theorem gj_si {μ : Mm} {c i j c' i' j' : Nat} {v : Int32} : gj (si μ c i j v) c' i' j' = gj μ c' i' j' := rfl
theorem gi_sj {μ : Mm} {c i j c' i' j' : Nat} {v : Int64} : gi (sj μ c i j v) c' i' j' = gi μ c' i' j' := rfl
theorem gj_sj {μ : Mm} {c i j c' i' j' : Nat} {v : Int64} : gj (sj μ c i j v) c' i' j' = if c' = c ∧ i' = i ∧ j' = j then v else gj μ c' i' j' := rfl
/-- a block of an array is written -/
def bw (μ : Mm) (c i lo hi : Nat) (g : Nat → Int32) : Mm := (fun x y z => if x = c ∧ y = i ∧ lo ≤ z ∧ z < hi then g z else μ.1 x y z, μ.2)
theorem gi_bw {μ : Mm} {c i lo hi c' i' j' : Nat} {g : Nat → Int32} : gi (bw μ c i lo hi g) c' i' j' = if c' = c ∧ i' = i ∧ lo ≤ j' ∧ j' < hi then g j' else gi μ c' i' j' := rfl
theorem gj_bw {μ : Mm} {c i lo hi c' i' j' : Nat} {g : Nat → Int32} : gj (bw μ c i lo hi g) c' i' j' = gj μ c' i' j' := rfl
theorem mm_ext {μ μ' : Mm} (h1 : ∀ c i j, gi μ c i j = gi μ' c i j) (h2 : ∀ c i j, gj μ c i j = gj μ' c i j) : μ = μ' :=
  Prod.ext (funext fun c => funext fun i => funext fun j => h1 c i j) (funext fun c => funext fun i => funext fun j => h2 c i j)
theorem bw_0 {μ : Mm} {c i lo hi : Nat} {g : Nat → Int32} (h : hi ≤ lo) : bw μ c i lo hi g = μ := mm_ext (fun a b d => by
  rw [gi_bw, if_neg]
  omega) (fun a b d => rfl)
theorem bw_s {μ : Mm} {c i lo hi : Nat} {g g' : Nat → Int32} {v : Int32} (h : lo < hi) (hv : v = g lo) (hg : ∀ z, lo < z → z < hi → g' z = g z) : bw (si μ c i lo v) c i (lo + 1) hi g' = bw μ c i lo hi g := mm_ext (fun a b d => by
  rw [gi_bw, gi_bw, gi_si]
  by_cases h1 : a = c ∧ b = i ∧ lo + 1 ≤ d ∧ d < hi
  · rw [if_pos h1, if_pos (by omega)]
    exact hg d (by omega) (by omega)
  · rw [if_neg h1]
    by_cases h2 : a = c ∧ b = i ∧ d = lo
    · rw [if_pos h2, if_pos (by omega), hv, h2.2.2]
    · rw [if_neg h2, if_neg (by omega)]) (fun a b d => rfl)
theorem si_same {μ : Mm} {c i j : Nat} : si μ c i j (gi μ c i j) = μ := mm_ext (fun a b d => by
  rw [gi_si]
  split
  · rename_i h
    rw [h.1, h.2.1, h.2.2]
  · rfl) (fun a b d => rfl)
theorem si_si {μ : Mm} {c i j : Nat} {v w : Int32} : si (si μ c i j v) c i j w = si μ c i j w := mm_ext (fun a b d => by
  simp only [gi_si]
  split <;> rfl) (fun a b d => rfl)
theorem si_comm {μ : Mm} {c i j c' i' j' : Nat} {v w : Int32} (h : ¬ (c = c' ∧ i = i' ∧ j = j')) : si (si μ c i j v) c' i' j' w = si (si μ c' i' j' w) c i j v := mm_ext (fun a b d => by
  simp only [gi_si]
  by_cases h1 : a = c ∧ b = i ∧ d = j
  · by_cases h2 : a = c' ∧ b = i' ∧ d = j'
    · exact absurd ⟨h1.1.symm.trans h2.1, h1.2.1.symm.trans h2.2.1, h1.2.2.symm.trans h2.2.2⟩ h
    · rw [if_neg h2, if_pos h1, if_pos h1]
  · by_cases h2 : a = c' ∧ b = i' ∧ d = j'
    · rw [if_pos h2, if_neg h1, if_pos h2]
    · rw [if_neg h2, if_neg h1, if_neg h1, if_neg h2]) (fun a b d => rfl)
/-! ints -/
theorem tz_add {a b : Int32} (h : -2147483648 ≤ a.toInt + b.toInt ∧ a.toInt + b.toInt < 2147483648) : (a + b).toInt = a.toInt + b.toInt := by
  rw [Int32.toInt_add, Int.bmod_def]
  split <;> omega
theorem tz_sub {a b : Int32} (h : -2147483648 ≤ a.toInt - b.toInt ∧ a.toInt - b.toInt < 2147483648) : (a - b).toInt = a.toInt - b.toInt := by
  rw [Int32.toInt_sub, Int.bmod_def]
  split <;> omega
theorem bm_id {x : Int} (h : -2147483648 ≤ x ∧ x < 2147483648) : x.bmod (2 ^ 32) = x := by
  rw [Int.bmod_def]
  split <;> omega
theorem tz_mul {a b : Int32} (h : -2147483648 ≤ a.toInt * b.toInt ∧ a.toInt * b.toInt < 2147483648) : (a * b).toInt = a.toInt * b.toInt := by
  rw [Int32.toInt_mul]
  exact bm_id h
theorem tz_neg {a : Int32} (h : -2147483648 < a.toInt) : (-a).toInt = -a.toInt := by
  have h2 := a.toInt_lt
  rw [Int32.toInt_neg, Int.bmod_def]
  split <;> omega
theorem tz_irm (x y : Int32) : (irm x y).toInt = x.toInt.tmod y.toInt := by
  unfold irm
  rw [Int32.toInt_sub, Int32.toInt_mul, Int32.toInt_div]
  have h1 : x.toInt - x.toInt.tdiv y.toInt * y.toInt = x.toInt.tmod y.toInt := by rw [Int.tmod_def, Int.mul_comm]
  have h2 := x.toInt_lt
  have h3 := x.le_toInt
  have h4 : (x.toInt.tmod y.toInt).natAbs ≤ x.toInt.natAbs := by
    rw [Int.natAbs_tmod]
    exact Nat.mod_le _ _
  have h5 : ∀ t : Int, (x.toInt - ((t.bmod (2 ^ 32)) * y.toInt).bmod (2 ^ 32)).bmod (2 ^ 32) = (x.toInt - t * y.toInt).bmod (2 ^ 32) := fun t => by simp
  rw [h5, h1]
  refine bm_id ?_
  have h6 : (x.toInt.tmod y.toInt) = 0 ∨ ((x.toInt.tmod y.toInt < 0 ↔ x.toInt < 0)) := by
    rcases Int.lt_or_le x.toInt 0 with q | q
    · have := Int.tmod_nonneg (a := -x.toInt) y.toInt (by omega)
      rw [Int.neg_tmod] at this
      omega
    · have := Int.tmod_nonneg y.toInt q
      omega
  omega
theorem nn_inj {a b : Nat} (ha : a < 2147483648) (hb : b < 2147483648) : nI a = nI b ↔ a = b := by
  rw [← Int32.toInt_inj, nI_toInt ha, nI_toInt hb]
  omega
theorem nn_lt {a b : Nat} (ha : a < 2147483648) (hb : b < 2147483648) : nI a < nI b ↔ a < b := by
  rw [Int32.lt_iff_toInt_lt, nI_toInt ha, nI_toInt hb]
  omega
theorem nn_le {a b : Nat} (ha : a < 2147483648) (hb : b < 2147483648) : nI a ≤ nI b ↔ a ≤ b := by
  rw [Int32.le_iff_toInt_le, nI_toInt ha, nI_toInt hb]
  omega
theorem nn_add (a b : Nat) : nI a + nI b = nI (a + b) := (Int32.ofNat_add a b).symm
theorem nn_s (a : Nat) : nI a + 1 = nI (a + 1) := nn_add a 1
theorem nn_mul (a b : Nat) : nI a * nI b = nI (a * b) := (Int32.ofNat_mul a b).symm
theorem nn_sub {a b : Nat} (h : b ≤ a) : nI a - nI b = nI (a - b) := (Int32.ofNat_sub a b h).symm
theorem nn_cl {a : Nat} (ha : a < 2147483648) : (nI a).toNatClampNeg = a := Int32.toNatClampNeg_ofNat_of_lt ha
theorem nn_inb {a n : Nat} (ha : a < 2147483648) : inb (nI a) n = true ↔ a < n := by
  unfold inb
  rw [nI_toInt ha, decide_eq_true_iff]
  omega
theorem nn_neg {a : Nat} (ha : a < 2147483648) : ¬ nI a < 0 := by
  rw [show (0 : Int32) = nI 0 from rfl, nn_lt ha (by decide)]
  omega
theorem nn_get {x : Int32} (h : 0 ≤ x.toInt) : x = nI x.toInt.toNat := by
  apply Int32.toInt_inj.mp
  have h2 := x.toInt_lt
  rw [nI_toInt (by omega)]
  omega
theorem nn_div {a b : Nat} (ha : a < 2147483648) (hb : b < 2147483648) : nI a / nI b = nI (a / b) := by
  apply Int32.toInt_inj.mp
  have h1 : a / b ≤ a := Nat.div_le_self a b
  rw [Int32.toInt_div, nI_toInt ha, nI_toInt hb, nI_toInt (by omega), ← Int.ofNat_tdiv]
  generalize a / b = d at h1
  exact bm_id (by omega)
theorem nn_irm {a b : Nat} (ha : a < 2147483648) (hb : b < 2147483648) : irm (nI a) (nI b) = nI (a % b) := by
  apply Int32.toInt_inj.mp
  have h1 : a % b ≤ a := Nat.mod_le a b
  rw [tz_irm, nI_toInt ha, nI_toInt hb, nI_toInt (by omega), ← Int.ofNat_tmod]
theorem nn_ab {x : Int32} (h : -2147483648 < x.toInt) : ab x = nI x.toInt.natAbs := by
  apply Int32.toInt_inj.mp
  have h2 := x.toInt_lt
  rw [nI_toInt (by omega)]
  unfold ab
  split
  · rename_i q
    rw [Int32.le_iff_toInt_le] at q
    have : (0 : Int32).toInt = 0 := rfl
    omega
  · rename_i q
    rw [Int32.le_iff_toInt_le] at q
    have h0 : (0 : Int32).toInt = 0 := rfl
    rw [tz_sub (by omega)]
    omega
theorem z0 : (0 : Int32).toInt = 0 := rfl
theorem i_eq {x y : Int32} : x = y ↔ x.toInt = y.toInt := Int32.toInt_inj.symm
theorem i_lt {x y : Int32} : x < y ↔ x.toInt < y.toInt := Int32.lt_iff_toInt_lt
theorem i_le {x y : Int32} : x ≤ y ↔ x.toInt ≤ y.toInt := Int32.le_iff_toInt_le
theorem i_0le {x : Int32} : 0 ≤ x ↔ 0 ≤ x.toInt := i_le
theorem i_le0 {x : Int32} : x ≤ 0 ↔ x.toInt ≤ 0 := i_le
theorem i_0lt {x : Int32} : 0 < x ↔ 0 < x.toInt := i_lt
theorem i_lt0 {x : Int32} : x < 0 ↔ x.toInt < 0 := i_lt
theorem i_eq0 {x : Int32} : x = 0 ↔ x.toInt = 0 := i_eq
theorem i_inb {x : Int32} {n : Nat} : inb x n = true ↔ 0 ≤ x.toInt ∧ x.toInt < n := by
  unfold inb
  rw [decide_eq_true_iff]
theorem i_cl {x : Int32} (h : 0 ≤ x.toInt) : (x.toNatClampNeg : Int) = x.toInt := by
  unfold Int32.toNatClampNeg
  omega
