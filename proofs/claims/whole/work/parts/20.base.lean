/-! PURE, the ground: reads over writes, ints -/
theorem gi_si {μ : Mm} {c i j c' i' j' : Nat} {v : Int32} : gi (si μ c i j v) c' i' j' = if c' = c ∧ i' = i ∧ j' = j then v else gi μ c' i' j' := rfl
theorem gj_si {μ : Mm} {c i j c' i' j' : Nat} {v : Int32} : gj (si μ c i j v) c' i' j' = gj μ c' i' j' := rfl
theorem gi_sj {μ : Mm} {c i j c' i' j' : Nat} {v : Int64} : gi (sj μ c i j v) c' i' j' = gi μ c' i' j' := rfl
theorem gj_sj {μ : Mm} {c i j c' i' j' : Nat} {v : Int64} : gj (sj μ c i j v) c' i' j' = if c' = c ∧ i' = i ∧ j' = j then v else gj μ c' i' j' := rfl
theorem tz_add {a b : Int32} (h : -2147483648 ≤ a.toInt + b.toInt ∧ a.toInt + b.toInt < 2147483648) : (a + b).toInt = a.toInt + b.toInt := by
  rw [Int32.toInt_add, Int.bmod_def]
  split <;> omega
theorem tz_sub {a b : Int32} (h : -2147483648 ≤ a.toInt - b.toInt ∧ a.toInt - b.toInt < 2147483648) : (a - b).toInt = a.toInt - b.toInt := by
  rw [Int32.toInt_sub, Int.bmod_def]
  split <;> omega
theorem tz_mul {a b : Int32} (h : -2147483648 ≤ a.toInt * b.toInt ∧ a.toInt * b.toInt < 2147483648) : (a * b).toInt = a.toInt * b.toInt := by
  rw [Int32.toInt_mul, Int.bmod_def]
  split <;> omega
theorem tz_neg {a : Int32} (h : -2147483648 < a.toInt) : (-a).toInt = -a.toInt := by
  have h2 := a.toInt_lt
  rw [Int32.toInt_neg, Int.bmod_def]
  split <;> omega
theorem ex1 (a b : Int32) (h : a < b) (h2 : 0 ≤ a) (h3 : b ≤ 100) : a + 1 ≤ b := by grind
theorem ex2 (a b : Int32) (h : a.toInt < b.toInt) : a < b := by grind
theorem ex3 (a b : Int32) (h : a < b) (h2 : 0 ≤ a) (h3 : b ≤ 100) : (a + b).toInt = a.toInt + b.toInt := by grind
theorem ex4 (a b : Int32) (h : a < b) (h2 : 0 ≤ a) (h3 : b ≤ 100) : inb (3 * a) 300 = true := by
  unfold inb
  grind
theorem ex5 (a : Int32) (i : Nat) (h : a.toInt = i) : a.toNatClampNeg = i := by
  grind
theorem ex6 (a : Int32) (i : Nat) (h : a.toInt = i) : a.toNatClampNeg = i := by
  simp [Int32.toNatClampNeg, h]
theorem ex7 (a b : Int32) (h : a ≠ b) : a.toInt ≠ b.toInt := by
  grind
theorem ex8 : (300 : Int32).toInt = 300 := by simp
theorem ex9 (a b : Int32) (h : a < b) (h2 : 0 ≤ a) (h3 : b ≤ 100) : (a - 2 * b).toInt = a.toInt - 2 * b.toInt := by grind
theorem ex10 (a b : Int32) (h : a < b) (h2 : 0 ≤ a) (h3 : b ≤ 100) : (a - 2 * b).toInt = a.toInt - 2 * b.toInt := by lia
