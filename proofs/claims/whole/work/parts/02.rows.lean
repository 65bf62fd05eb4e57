/-! THE MEMORY: cell tag (class 0 .. 12, or an array field's tag from 20 on), instance, place -/
abbrev Mm : Type := (Nat → Nat → Nat → Int32) × (Nat → Nat → Nat → Int64)
def gi (μ : Mm) (c i j : Nat) : Int32 := μ.1 c i j
def gj (μ : Mm) (c i j : Nat) : Int64 := μ.2 c i j
def si (μ : Mm) (c i j : Nat) (v : Int32) : Mm := (fun x y z => if x = c ∧ y = i ∧ z = j then v else μ.1 x y z, μ.2)
def sj (μ : Mm) (c i j : Nat) (v : Int64) : Mm := (μ.1, fun x y z => if x = c ∧ y = i ∧ z = j then v else μ.2 x y z)
def tx (a : Int32) : Nat := if a = 0 then 0 else 1
/-- how many fields a class has -/
def nf (c : Nat) : Nat := match c with
  | 0 => 3
  | 1 => 5
  | 2 => 10
  | 3 => 4
  | 4 => 5
  | 5 => 4
  | 6 => 4
  | 7 => 11
  | 8 => 13
  | 9 => 9
  | 10 => 2
  | 11 => 12
  | 12 => 75
  | _ => 0
/-- a field's kind: 0 int, 1 long, 2 a fixed reference, 3 a Text, 4 a fixed reference or null -/
def kd (c j : Nat) : Nat := match c with
  | 0 => [2, 0, 0].getD j 0
  | 1 => [0, 0, 2, 2, 2].getD j 0
  | 2 => [0, 0, 2, 3, 0, 0, 2, 0, 0, 2].getD j 0
  | 3 => [0, 2, 2, 2].getD j 0
  | 4 => [0, 0, 2, 2, 2].getD j 0
  | 5 => [0, 0, 0, 0].getD j 0
  | 6 => [0, 0, 0, 0].getD j 0
  | 7 => [0, 0, 0, 0, 0, 1, 2, 2, 2, 2, 2].getD j 0
  | 8 => [0, 0, 0, 2, 2, 0, 2, 0, 2, 2, 2, 2, 2].getD j 0
  | 9 => [0, 0, 0, 2, 2, 2, 2, 2, 2].getD j 0
  | 10 => [2, 2].getD j 0
  | 11 => [2, 2, 3, 3, 2, 2, 2, 2, 2, 2, 4, 4].getD j 0
  | 12 => [0, 2, 0, 2, 0, 2, 2, 2, 2, 2, 0, 0, 0, 0, 0, 0, 0, 0, 0, 0, 0, 2, 2, 2, 2, 2, 2, 2, 2, 2, 2, 0, 2, 2, 2, 2, 2, 0, 2, 2, 2, 0, 2, 2, 0, 2, 2, 0, 2, 2, 0, 2, 2, 2, 2, 2, 0, 0, 0, 0, 0, 0, 0, 0, 0, 0, 0, 2, 2, 2, 2, 2, 2, 2, 2].getD j 0
  | _ => 0
/-- what a fixed reference refers to -/
def rt (c i j : Nat) : Nat × Nat := match c with
  | 0 => [(20, i), (0, 0), (0, 0)].getD j (0, 0)
  | 1 => [(0, 0), (0, 0), (21, i), (22, i), (23, i)].getD j (0, 0)
  | 2 => [(0, 0), (0, 0), (7, 0), (0, 0), (0, 0), (0, 0), (24, i), (0, 0), (0, 0), (5, 7)].getD j (0, 0)
  | 3 => [(0, 0), (6, i), (25, i), (26, i)].getD j (0, 0)
  | 4 => [(0, 0), (0, 0), (27, i), (28, i), (5, 9)].getD j (0, 0)
  | 7 => [(0, 0), (0, 0), (0, 0), (0, 0), (0, 0), (0, 0), (29, i), (30, i), (31, i), (32, i), (33, i)].getD j (0, 0)
  | 8 => [(0, 0), (0, 0), (0, 0), (34, i), (35, i), (0, 0), (36, i), (0, 0), (37, i), (38, i), (39, i), (40, i), (5, 5 + i)].getD j (0, 0)
  | 9 => [(0, 0), (0, 0), (0, 0), (41, i), (42, i), (43, i), (5, 8), (44, i), (45, i)].getD j (0, 0)
  | 10 => [(46, i), (47, i)].getD j (0, 0)
  | 11 => [(7, 0), (2, 0), (0, 0), (0, 0), (0, 0), (1, 0), (9, 0), (5, 4), (6, 18), (6, 19), (4, 0), (10, 0)].getD j (0, 0)
  | 12 => [(0, 0), (48, i), (0, 0), (49, i), (0, 0), (50, i), (51, i), (52, i), (53, i), (54, i), (0, 0), (0, 0), (0, 0), (0, 0), (0, 0), (0, 0), (0, 0), (0, 0), (0, 0), (0, 0), (0, 0), (55, i), (56, i), (57, i), (58, i), (59, i), (60, i), (61, i), (62, i), (63, i), (64, i), (0, 0), (65, i), (66, i), (67, i), (68, i), (69, i), (0, 0), (70, i), (71, i), (72, i), (0, 0), (73, i), (74, i), (0, 0), (75, i), (76, i), (0, 0), (77, i), (78, i), (0, 0), (79, i), (80, i), (81, i), (82, i), (83, i), (0, 0), (0, 0), (0, 0), (0, 0), (0, 0), (0, 0), (0, 0), (0, 0), (0, 0), (0, 0), (0, 0), (84, i), (85, i), (86, i), (87, i), (88, i), (89, i), (90, i), (91, i)].getD j (0, 0)
  | _ => (0, 0)
/-- an array's kind: 0 int, 1 byte, 2 boolean, 3 long, 4 Row, 5 Square, 6 int[]; its length; its elements' cells -/
def ak (c : Nat) : Nat := [0, 0, 0, 0, 0, 0, 0, 0, 0, 0, 0, 0, 0, 0, 0, 0, 0, 0, 0, 0, 5, 6, 6, 2, 0, 0, 0, 0, 0, 1, 0, 0, 0, 3, 4, 4, 3, 0, 0, 0, 0, 0, 0, 2, 0, 0, 0, 0, 1, 1, 0, 0, 0, 3, 3, 3, 0, 0, 0, 0, 0, 0, 0, 0, 0, 2, 0, 0, 0, 0, 0, 0, 0, 0, 0, 0, 0, 0, 0, 0, 0, 0, 0, 0, 0, 0, 2, 0, 0, 0, 2, 0, 0].getD c 0
def al (c : Nat) : Nat := [4, 40, 3, 3, 32, 8, 8, 12016, 19900, 2000, 401, 401, 401, 401, 4, 5, 9, 408, 4, 9, 32, 20, 20, 20, 4, 12, 4950, 4950, 2000, 2000, 403, 403, 403, 403, 22, 9, 2, 2, 18, 144, 144, 8, 2, 8, 8, 260, 260, 260, 260, 260, 840, 840, 64, 9, 400, 14, 14, 20000, 20000, 560, 20000, 20000, 20000, 20000, 20, 20, 20, 5, 4, 15, 3, 42, 18].getD (c - 20) 0
def re (c i j : Nat) : Nat × Nat := match c with
  | 20 => (5, j)
  | 21 => (92, j)
  | 22 => (92, 40 + j)
  | 34 => (3, 9 * i + j)
  | 35 => (3, 9 * i + 4 + j)
  | _ => (0, 0)
/-- the tables' words that hold in every later state -/
def lw_g : List Cond := lw_tbl.filter goodWord
theorem xg {w : Cond} (h : w ∈ lw_tbl) (g : goodWord w = true) : w ∈ lw_g := List.mem_filter.mpr ⟨h, g⟩
theorem xgu {C : String} {T : u_T} {N : Nat} (h : ∀ w ∈ u_ws C T N, w ∈ lw_tbl) : ∀ w ∈ u_ws C T N, w ∈ lw_g := fun w hw => xg (h w hw) (by
  obtain ⟨k, -, rfl⟩ := List.mem_map.mp hw
  unfold u_lay
  split <;> rfl)
theorem lw_gg : GoodIn lw_g lw_g := fun w hw => ⟨hw, good_of_word (List.mem_filter.mp hw).2⟩
/-! THE WORLD: what is fixed for a run: classes' and arrays' numbers, where the cells lie, which there are, what else is kept, what may be written, three addresses of what is older -/
abbrev Kx : Type := va_G × (Nat → ClassId) × (Nat → Nat → Nat) × (Nat → Nat → Prop) × (Nat → va_E → Prop) × (Nat → Prop) × Nat × (Nat → Nat) × (Nat → Nat) × Option Nat
def kD (k : Kx) : va_G := k.1
def kA (k : Kx) : Nat → ClassId := k.2.1
def kad (k : Kx) : Nat → Nat → Nat := k.2.2.1
def kex (k : Kx) : Nat → Nat → Prop := k.2.2.2.1
def kro (k : Kx) : Nat → va_E → Prop := k.2.2.2.2.1
def kF (k : Kx) : Nat → Prop := k.2.2.2.2.2.1
def kT (k : Kx) : Nat := k.2.2.2.2.2.2.1
def kSa (k : Kx) : Nat → Nat := k.2.2.2.2.2.2.2.1
def kSv (k : Kx) : Nat → Nat := k.2.2.2.2.2.2.2.2.1
def kQ (k : Kx) : Option Nat := k.2.2.2.2.2.2.2.2.2
def ktys (k : Kx) : List (ClassId × FieldType) := [(kA k 0, .int), (kA k 1, .byte), (kA k 2, .boolean), (kA k 3, .long), (kA k 4, .object "RopeDance$Row"), (kA k 5, .object "RopeDance$Square"), (kA k 6, .array .int)]
def kty (n : Nat) : FieldType := match n with
  | 0 => .int
  | 1 => .byte
  | 2 => .boolean
  | 3 => .long
  | 4 => .object "RopeDance$Row"
  | 5 => .object "RopeDance$Square"
  | _ => .array .int
def fval (k : Kx) (c i j : Nat) (a : Int32) (b : Int64) : Value := match kd c j with
  | 0 => .int a
  | 1 => .long b
  | 2 => .ref (kad k (rt c i j).1 (rt c i j).2)
  | 3 => .ref (kad k 8 (tx a))
  | _ => if a = 0 then .null else .ref (kad k (rt c i j).1 (rt c i j).2)
def flds (k : Kx) (c i : Nat) (a : Nat → Int32) (b : Nat → Int64) : List Value := (List.range (nf c)).map (fun j => fval k c i j (a j) (b j))
def acel (k : Kx) (c i : Nat) (a : Nat → Int32) (b : Nat → Int64) : (Nat → Int32) ⊕ (Nat → Int64) ⊕ (Nat → UInt32) ⊕ (Nat → UInt64) ⊕ (Nat → Option Nat) :=
  if ak c < 3 then .inl a else if ak c = 3 then .inr (.inl b) else .inr (.inr (.inr (.inr (fun j => some (kad k (re c i j).1 (re c i j).2)))))
def cel (k : Kx) (μ : Mm) (c i : Nat) : va_E := if c < 20 then .inr (c, flds k c i (μ.1 c i) (μ.2 c i)) else .inl (kA k (ak c), (al c, acel k c i (μ.1 c i) (μ.2 c i)))
def wd (k : Kx) (μ : Mm) (H : Heap) : Prop :=
  (∀ c i, kex k c i → va_at (kD k) classes (kad k c i, cel k μ c i) H) ∧ (∀ q e, kro k q e → va_at (kD k) classes (q, e) H) ∧ ∀ c i j, kd c j = 4 → kex k c i → gi μ c i j ≠ 0 → kex k (rt c i j).1 (rt c i j).2
def kok (k : Kx) : Prop :=
  (∀ c i c' i', kex k c i → kex k c' i' → kad k c i = kad k c' i' → c = c' ∧ i = i') ∧ (∀ c i q e, kex k c i → kro k q e → kad k c i ≠ q) ∧ (∀ c i, kex k c i → kF k (kad k c i)) ∧
  (∀ c i j, kd c j = 2 → kex k c i → kex k (rt c i j).1 (rt c i j).2) ∧ (∀ c i j, 4 ≤ ak c → j < al c → kex k c i → kex k (re c i j).1 (re c i j).2) ∧ (∀ c i, kex k c i → (c = 11 ∨ c = 2) → kex k 8 0 ∧ kex k 8 1) ∧ (∀ i, kex k 8 i → i < 2)
/-- what is older than the run and stays: a static array, two text constants -/
def mostW : List Int32 := [99, 99, 99, 100]
def lenS : List Nat := [125, 9]
def bytS : List (List Int32) := [[115, 113, 117, 97, 114, 101, 32, 102, 105, 103, 117, 114, 101, 32, 116, 105, 114, 101, 115, 32, 114, 101, 115, 116, 115, 32, 112, 97, 121, 115, 32, 115, 108, 105, 112, 115, 32, 115, 101, 101, 100, 32, 116, 119, 105, 115, 116, 32, 98, 97, 99, 107, 32, 116, 117, 114, 110, 32, 105, 102, 32, 116, 104, 101, 110, 32, 101, 108, 115, 101, 32, 111, 118, 101, 114, 32, 117, 110, 100, 101, 114, 32, 99, 114, 111, 115, 115, 32, 101, 110, 100, 115, 32, 116, 105, 114, 101, 100, 32, 109, 105, 110, 117, 116, 101, 32, 119, 104, 105, 99, 104, 32, 109, 111, 118, 101, 115, 32, 99, 97, 108, 108, 101, 100, 32], [59, 61, 43, 45, 42, 47, 60, 40, 41]]
def nestW : Cond := .methodLinkNest "RopeDance$Table" 56 ⟨"RopeDance", "greatest", "(II)I"⟩ "RopeDance"
def rs (k : Kx) (U : State) (H : Heap) : Prop :=
  va_Z "RopeDance$Text" "MOST_WORTH" "[I" (.ref (kT k)) (kF k) U H ∧ va_T .int (kT k) 4 (fun j => .int (mostW.getD j 0)) (kF k) U H ∧ vk_S 2 lenS bytS (kSa k) (kSv k) (kF k) U H ∧
  va_Z "java/lang/String" "COMPACT_STRINGS" "Z" (.int 1) (kF k) U H ∧ va_Z "jdk/internal/util/Preconditions" "SIOOBE_FORMATTER" "Ljava/util/function/BiFunction;" (va_rf (kQ k)) (kF k) U H ∧
  vk_R "RopeDance$Tape" 96 "square figure tires rests pays slips seed twist back turn if then else over under cross ends tired minute which moves called " (kSa k 0) U ∧ vk_R "RopeDance$Tape" 81 ";=+-*/<()" (kSa k 1) U ∧ va_Nw nestW U
theorem rs_kept {k : Kx} {U : State} {H H1 : Heap} (h : rs k U H) (hq : ∀ a : Nat, a < H.size → ¬ kF k a → H1[a]? = H[a]?) : rs k U H1 := ⟨h.1.kept hq, h.2.1.kept hq, h.2.2.1.kept hq, h.2.2.2.1.kept hq, h.2.2.2.2.1.kept hq, h.2.2.2.2.2⟩
theorem rs_warm {k : Kx} {s U : State} {H : Heap} (hW : s.WarmedH U.vm) (h : rs k s H) : rs k U H := ⟨va_Z.moved hW.alike h.1, va_T.moved hW.alike h.2.1, vk_S.moved hW.alike h.2.2.1, va_Z.moved hW.alike h.2.2.2.1, va_Z.moved hW.alike h.2.2.2.2.1, vk_R.warm hW h.2.2.2.2.2.1, vk_R.warm hW h.2.2.2.2.2.2.1, va_Nw.warmM hW h.2.2.2.2.2.2.2⟩
theorem rs_same {k : Kx} {u U : State} {H : Heap} (hv : U.vm = u.vm) (h : rs k u H) : rs k U H := by
  have ha : u.vm.Alike U.vm := by rw [hv]; exact Vm.Alike.refl _
  exact ⟨va_Z.moved ha h.1, va_T.moved ha h.2.1, vk_S.moved ha h.2.2.1, va_Z.moved ha h.2.2.2.1, va_Z.moved ha h.2.2.2.2.1, vk_R.same hv h.2.2.2.2.2.1, vk_R.same hv h.2.2.2.2.2.2.1, va_Nw.same rfl hv.symm h.2.2.2.2.2.2.2⟩
def wk (k : Kx) (U : State) : Prop := va_K (kD k) classes (ktys k) U
def rmh (h : Nat) (T : Nat × Nat) : Room := { frames := h, cells := T.1, slots := T.2, locals := 30 * h }
def bok (ret : Option FieldType) (rv : Option Value) : Prop := (ret = some .boolean → ∀ x : Int32, rv = some (.int x) → narrow .boolean (.int x) = .int x) ∧ (ret = some .char → ∀ x : Int32, rv = some (.int x) → narrow .char (.int x) = .int x)
def pre (k : Kx) (μ : Mm) : State → Prop := fun U => wd k μ U.heap ∧ wk k U ∧ rs k U U.heap
abbrev Ez : Type := Kx × (Nat × Nat) × Option FieldType × Option Value × Mm
/-- what a method's end says: E: the world, the cells and slots made, the type of the answer, the answer, the memory -/
def qq (E : Ez) : Array Value → State → Outcome → State → Prop := fun _ st oc t => (oc = .returned E.2.2.2.1 ∧ bok E.2.2.1 E.2.2.2.1 ∧ wd E.1 E.2.2.2.2 t.heap ∧ t.heap.size = st.heap.size + E.2.1.1) ∧ va_F (kF E.1) st t
/-- A METHOD'S CONTRACT: from the memory μ with the arguments av it answers rv and leaves the memory μ' -/
def MM (l : Launch) (k : Kx) (h : Nat) (y : MethodName) (b : ByteArray) (nL : Nat) (ret : Option FieldType) (av : List Value) (μ : Mm) (rv : Option Value) (μ' : Mm) : Prop :=
  Met l y (.code y b nL ret :: lw_g) (rmh h (0, 0)) (va_Pc av (pre k μ)) (qq (k, (0, 0), ret, rv, μ')) 0 0 (kF k)
/-! memory -/
theorem mi_ne {μ : Mm} {c i j : Nat} {v : Int32} {c' i' : Nat} (h : ¬ (c' = c ∧ i' = i)) : (si μ c i j v).1 c' i' = μ.1 c' i' := by
  funext z
  show (if c' = c ∧ i' = i ∧ z = j then v else μ.1 c' i' z) = _
  rw [if_neg (fun q => h ⟨q.1, q.2.1⟩)]
theorem mi_eq {μ : Mm} {c i j : Nat} {v : Int32} : (si μ c i j v).1 c i = upd (μ.1 c i) j v := by
  funext z
  show (if c = c ∧ i = i ∧ z = j then v else μ.1 c i z) = if z = j then v else μ.1 c i z
  simp
theorem mj_ne {μ : Mm} {c i j : Nat} {v : Int64} {c' i' : Nat} (h : ¬ (c' = c ∧ i' = i)) : (sj μ c i j v).2 c' i' = μ.2 c' i' := by
  funext z
  show (if c' = c ∧ i' = i ∧ z = j then v else μ.2 c' i' z) = _
  rw [if_neg (fun q => h ⟨q.1, q.2.1⟩)]
theorem mj_eq {μ : Mm} {c i j : Nat} {v : Int64} : (sj μ c i j v).2 c i = vp_updL (μ.2 c i) j v := by
  funext z
  show (if c = c ∧ i = i ∧ z = j then v else μ.2 c i z) = if z = j then v else μ.2 c i z
  simp
theorem cel_ne {k : Kx} {μ μ' : Mm} {c i : Nat} (h1 : μ'.1 c i = μ.1 c i) (h2 : μ'.2 c i = μ.2 c i) : cel k μ' c i = cel k μ c i := by
  unfold cel
  rw [h1, h2]
theorem flds_len {k : Kx} {c i : Nat} {a : Nat → Int32} {b : Nat → Int64} : (flds k c i a b).length = nf c := by simp [flds]
theorem flds_get {k : Kx} {c i j : Nat} {a : Nat → Int32} {b : Nat → Int64} (hj : j < nf c) : (flds k c i a b)[j]? = some (fval k c i j (a j) (b j)) := by simp [flds, hj]
theorem flds_set {k : Kx} {c i j : Nat} {a a' : Nat → Int32} {b b' : Nat → Int64} {v : Value} (hv : fval k c i j (a' j) (b' j) = v) (ha : ∀ t, t ≠ j → a' t = a t) (hb : ∀ t, t ≠ j → b' t = b t) : (flds k c i a b).set j v = flds k c i a' b' := by
  apply List.ext_getElem?
  intro t
  by_cases ht : t < nf c
  · by_cases hj : j = t
    · subst hj
      rw [List.getElem?_set_self (by rw [flds_len]; exact ht), flds_get ht, hv]
    · rw [List.getElem?_set_ne hj, flds_get ht, flds_get ht, ha t (fun q => hj q.symm), hb t (fun q => hj q.symm)]
  · have e : nf c ≤ t := Nat.not_lt.mp ht
    rw [List.getElem?_eq_none (by rw [List.length_set, flds_len]; exact e), List.getElem?_eq_none (by rw [flds_len]; exact e)]
/-- one cell is written -/
theorem wd_put {k : Kx} {μ μ' : Mm} {H H1 : Heap} {c i : Nat} (hk : kok k) (hw : wd k μ H) (he : kex k c i) (h1 : va_at (kD k) classes (kad k c i, cel k μ' c i) H1) (oq : ∀ q : Nat, q ≠ kad k c i → H1[q]? = H[q]?)
    (hμ : ∀ c' i', ¬ (c' = c ∧ i' = i) → cel k μ' c' i' = cel k μ c' i') (hn : ∀ c i j, kd c j = 4 → kex k c i → gi μ' c i j ≠ 0 → kex k (rt c i j).1 (rt c i j).2) : wd k μ' H1 := by
  refine ⟨fun c' i' he' => ?_, fun q e hq => ?_, hn⟩
  · by_cases hci : c' = c ∧ i' = i
    · obtain ⟨rfl, rfl⟩ := hci
      exact h1
    · rw [hμ c' i' hci]
      exact (hw.1 c' i' he').kept (oq _ (fun z => hci ⟨(hk.1 c' i' c i he' he z).1, (hk.1 c' i' c i he' he z).2⟩))
  · exact (hw.2.1 q e hq).kept (oq q (fun z => hk.2.1 c i q e he hq z.symm))
/-! what is fixed in a method's walk -/
abbrev Zx : Type := Program × Launch × Env × Room × State × MethodId × Array Value × List Frame × Method × Code
def zp (z : Zx) : Program := z.1
def zl (z : Zx) : Launch := z.2.1
def ze (z : Zx) : Env := z.2.2.1
def zR (z : Zx) : Room := z.2.2.2.1
def zs (z : Zx) : State := z.2.2.2.2.1
def zm (z : Zx) : MethodId := z.2.2.2.2.2.1
def za (z : Zx) : Array Value := z.2.2.2.2.2.2.1
def zb (z : Zx) : List Frame := z.2.2.2.2.2.2.2.1
def zme (z : Zx) : Method := z.2.2.2.2.2.2.2.2.1
def zc (z : Zx) : Code := z.2.2.2.2.2.2.2.2.2
def Ok (z : Zx) (k : Kx) (cc : ByteArray) (nL : Nat) (own : String) (ret : Option FieldType) (h : Nat) (T : Nat × Nat) : Prop :=
  (zp z).tables.exec = Jvm.exec ∧ (zc z).code = cc ∧ (zc z).maxLocals = nL ∧ (zs z).vm.findClass own = some (zm z).cls ∧ (∀ w ∈ lw_g, w.before (za z) (zs z) = true) ∧ wk k (zs z) ∧ rs k (zs z) (zs z).heap ∧ kok k ∧ (zme z).locks = false ∧ (zme z).sig.returnType = ret ∧ zR z = rmh h T
def Wz (z : Zx) (H : Heap) (locs : List Loc) (C : Nat × Nat) (Q : State → Prop) (g : JFrame) : Prop := W (zp z) (zl z) (ze z) (zR z) (zs z) (zm z) (za z) (zb z) (zme z) (zc z) H locs C.1 C.2 Q g
def Sz (z : Zx) (k : Kx) (C : Nat × Nat) (H : Heap) (locs : List Loc) : Prop := va_S (kF k) (zs z).heap H locs ∧ H.size = (zs z).heap.size + C.1
def Qz (z : Zx) (E : Ez) : State → Prop := MQ (zb z) (qq E) (za z) (zs z) E.2.1.1 E.2.1.2 (kF E.1)
/-- THE WALK at pc, with the memory μ, the locals lv, the operand stack st: it comes to the answer rv and the memory μ' -/
def Gq (z : Zx) (k : Kx) (nL : Nat) (Q : State → Prop) (C : Nat × Nat) (pc : Nat) (μ : Mm) (lv : List (Nat × Value)) (st : List Value) : Prop :=
  ∀ (H : Heap) (locs : List Loc) (ls : Array Slot), wd k μ H → Sz z k C H locs → lv_has ls nL lv → Wz z H locs C Q (F0 (zm z) pc ls st)
abbrev Gw (z : Zx) (k : Kx) (nL : Nat) (E : Ez) (C : Nat × Nat) (pc : Nat) (μ : Mm) (lv : List (Nat × Value)) (st : List Value) : Prop := Gq z k nL (Qz z E) C pc μ lv st
theorem xofW {l : Launch} {y : MethodName} {ws ws' : List Cond} {rm : Room} {Pc : Array Value → State → Prop} {Qc : Array Value → State → Outcome → State → Prop} {mc ms : Nat} {free : Addr → Prop} {cc : ByteArray} {maxL : Nat} {ret : Option FieldType}
    (hy : plainFor y = true) (hw : ws = Cond.code y cc maxL ret :: ws')
    (body : ∀ p e s m args below meth c s₁, BodyLoose p l y (headSpec ws rm) cc maxL ret e s m args below meth c s₁ → c.maxLocals = maxL → Pc args s →
      W p l e (headSpec ws rm).room s m args below meth c s.heap [] 0 0 (MQ below Qc args s mc ms free) (entryFrame m args maxL)) : Met l y ws rm Pc Qc mc ms free := by
  refine MetFree.of_bodySF (code := cc) (maxLocals := maxL) (ret := ret) hy ?_ ?_
  · intro args s m h hn
    obtain ⟨meth, c, h1, h2, h3, h4, h5, h6, -, -⟩ := Cond.code_spec hn (atoms_spec (ws := ws) h _ (by rw [hw]; exact List.mem_cons_self))
    exact ⟨meth, c, h1, h2, h3, h4, h5, h6⟩
  · intro p e s m args below meth c s₁ B hml hP _
    have hh0 : s₁.heap = s.heap := by rw [B.state]; rfl
    obtain ⟨t, a1, o, b1, b2, b3⟩ := body p e s m args below meth c s₁ B hml hP s₁ hh0 (Stand.of_body B)
    exact ⟨t, o, a1, b1, b2, ⟨b3.1, b3.2⟩⟩
theorem MM.of {l : Launch} {k : Kx} {h : Nat} {y : MethodName} {b : ByteArray} {nL : Nat} {ret : Option FieldType} {av : List Value} {μ : Mm} {rv : Option Value} {μ' : Mm} {lv : List (Nat × Value)} (hy : plainFor y = true) (hk : kok k) (hl : (lg_sl av).length ≤ nL) (hv : lv_args 0 av = lv)
    (body : ∀ z : Zx, zl z = l → Ok z k b nL y.cls ret h (0, 0) → Gw z k nL (k, (0, 0), ret, rv, μ') (0, 0) 0 μ lv []) : MM l k h y b nL ret av μ rv μ' := by
  refine xofW (cc := b) (maxL := nL) (ret := ret) hy rfl ?_
  intro p e s m args below meth c s₁ B hml hP
  obtain ⟨rfl, hw, hK, hR⟩ := hP
  have hts := atoms_spec (ws := .code y b nL ret :: lw_g) B.pre
  have hx : Ok (p, l, e, rmh h (0, 0), s, m, av.toArray, below, meth, c) k b nL y.cls ret h (0, 0) := ⟨B.exec, B.bytes, hml, findClass_of_methodNamed B.named, fun w hw => hts w (List.mem_cons_of_mem _ hw), hK, hR, hk, B.notSynchronized, B.returns, rfl⟩
  have h1 := lv_entry av hl
  rw [hv] at h1
  rw [lg_entry_eq]
  exact body _ rfl hx s.heap [] _ hw ⟨va_S.rf, rfl⟩ h1
section Rows
variable {z : Zx} {k : Kx} {cc : ByteArray} {nL : Nat} {own : String} {ret : Option FieldType} {h : Nat} {T : Nat × Nat} {E : Ez} {Q : State → Prop} {C : Nat × Nat} {μ' μ : Mm} {pc : Nat} {lv : List (Nat × Value)} {st : List Value}
theorem r_iconst (hx : Ok z k cc nL own ret h T) {n : Int} {v : Int32} (hv : Int32.ofInt n = v) (d : decode cc pc = .ok (.iconst n, 1)) (kk : Gq z k nL Q C (pc + 1) μ lv (.int v :: st)) : Gq z k nL Q C pc μ lv st :=
  fun H locs ls hw hS hl => lv_iconst hx.1 hx.2.1 d hv (kk H locs ls hw hS hl)
theorem r_bipush (hx : Ok z k cc nL own ret h T) {n : Int} {v : Int32} (hv : (Int8.ofInt n).toInt32 = v) (d : decode cc pc = .ok (.bipush n, 2)) (kk : Gq z k nL Q C (pc + 2) μ lv (.int v :: st)) : Gq z k nL Q C pc μ lv st :=
  fun H locs ls hw hS hl => lv_bipush hx.1 hx.2.1 d hv (kk H locs ls hw hS hl)
theorem r_sipush (hx : Ok z k cc nL own ret h T) {n : Int} {v : Int32} (hv : (Int16.ofInt n).toInt32 = v) (d : decode cc pc = .ok (.sipush n, 3)) (kk : Gq z k nL Q C (pc + 3) μ lv (.int v :: st)) : Gq z k nL Q C pc μ lv st :=
  fun H locs ls hw hS hl => lv_sipush hx.1 hx.2.1 d hv (kk H locs ls hw hS hl)
theorem r_ldc (hx : Ok z k cc nL own ret h T) {idx : Nat} {v : Int32} (hc : Cond.constant own idx v ∈ lw_g) (d : decode cc pc = .ok (.ldc idx, 2)) (kk : Gq z k nL Q C (pc + 2) μ lv (.int v :: st)) : Gq z k nL Q C pc μ lv st :=
  fun H locs ls hw hS hl => lv_ldc hx.1 hx.2.1 hx.2.2.2.1 (hx.2.2.2.2.1 _ hc) d (kk H locs ls hw hS hl)
theorem r_ldcw (hx : Ok z k cc nL own ret h T) {idx : Nat} {v : Int32} (hc : Cond.constant own idx v ∈ lw_g) (d : decode cc pc = .ok (.ldc_w idx, 3)) (kk : Gq z k nL Q C (pc + 3) μ lv (.int v :: st)) : Gq z k nL Q C pc μ lv st :=
  fun H locs ls hw hS hl => lv_ldcw hx.1 hx.2.1 hx.2.2.2.1 (hx.2.2.2.2.1 _ hc) d (kk H locs ls hw hS hl)
theorem r_ldc2 (hx : Ok z k cc nL own ret h T) {idx : Nat} {v : Int64} (hc : Cond.constantLong own idx v ∈ lw_g) (d : decode cc pc = .ok (.ldc2_w idx, 3)) (kk : Gq z k nL Q C (pc + 3) μ lv (.long v :: st)) : Gq z k nL Q C pc μ lv st :=
  fun H locs ls hw hS hl => lv_ldc2 hx.1 hx.2.1 hx.2.2.2.1 (hx.2.2.2.2.1 _ hc) d (kk H locs ls hw hS hl)
theorem r_lconst (hx : Ok z k cc nL own ret h T) {n : Fin 2} {v : Int64} (hv : Int64.ofNat (n : Nat) = v) (d : decode cc pc = .ok (.lconst n, 1)) (kk : Gq z k nL Q C (pc + 1) μ lv (.long v :: st)) : Gq z k nL Q C pc μ lv st :=
  fun H locs ls hw hS hl => lv_lconst hx.1 hx.2.1 d hv (kk H locs ls hw hS hl)
theorem r_iloadn (hx : Ok z k cc nL own ret h T) (q : Nat) {f : Fin 4} {i : Nat} {x : Int32} (hq : lv[q]? = some (i, .int x)) (hi : (f : Nat) = i) (d : decode cc pc = .ok (.iload_n f, 1)) (kk : Gq z k nL Q C (pc + 1) μ lv (.int x :: st)) : Gq z k nL Q C pc μ lv st :=
  fun H locs ls hw hS hl => lv_iload_n hx.1 hx.2.1 d hi (lv_at hl q hq) (kk H locs ls hw hS hl)
theorem r_iload (hx : Ok z k cc nL own ret h T) (q : Nat) {i : Nat} {x : Int32} (hq : lv[q]? = some (i, .int x)) (d : decode cc pc = .ok (.iload i, 2)) (kk : Gq z k nL Q C (pc + 2) μ lv (.int x :: st)) : Gq z k nL Q C pc μ lv st :=
  fun H locs ls hw hS hl => lv_iload hx.1 hx.2.1 d (lv_at hl q hq) (kk H locs ls hw hS hl)
theorem r_lloadn (hx : Ok z k cc nL own ret h T) (q : Nat) {f : Fin 4} {i : Nat} {x : Int64} (hq : lv[q]? = some (i, .long x)) (hi : (f : Nat) = i) (d : decode cc pc = .ok (.lload_n f, 1)) (kk : Gq z k nL Q C (pc + 1) μ lv (.long x :: st)) : Gq z k nL Q C pc μ lv st :=
  fun H locs ls hw hS hl => lv_lload_n hx.1 hx.2.1 d hi (lv_at hl q hq) (kk H locs ls hw hS hl)
theorem r_lload (hx : Ok z k cc nL own ret h T) (q : Nat) {i : Nat} {x : Int64} (hq : lv[q]? = some (i, .long x)) (d : decode cc pc = .ok (.lload i, 2)) (kk : Gq z k nL Q C (pc + 2) μ lv (.long x :: st)) : Gq z k nL Q C pc μ lv st :=
  fun H locs ls hw hS hl => lv_lload hx.1 hx.2.1 d (lv_at hl q hq) (kk H locs ls hw hS hl)
theorem r_aloadn (hx : Ok z k cc nL own ret h T) (q : Nat) {f : Fin 4} {i : Nat} {x : Nat} (hq : lv[q]? = some (i, .ref x)) (hi : (f : Nat) = i) (d : decode cc pc = .ok (.aload_n f, 1)) (kk : Gq z k nL Q C (pc + 1) μ lv (.ref x :: st)) : Gq z k nL Q C pc μ lv st :=
  fun H locs ls hw hS hl => lv_aload_n hx.1 hx.2.1 d hi (lv_at hl q hq) (kk H locs ls hw hS hl)
theorem r_aload (hx : Ok z k cc nL own ret h T) (q : Nat) {i : Nat} {x : Nat} (hq : lv[q]? = some (i, .ref x)) (d : decode cc pc = .ok (.aload i, 2)) (kk : Gq z k nL Q C (pc + 2) μ lv (.ref x :: st)) : Gq z k nL Q C pc μ lv st :=
  fun H locs ls hw hS hl => lv_aload hx.1 hx.2.1 d (lv_at hl q hq) (kk H locs ls hw hS hl)
theorem r_aloadnN (hx : Ok z k cc nL own ret h T) (q : Nat) {f : Fin 4} {i : Nat} (hq : lv[q]? = some (i, .null)) (hi : (f : Nat) = i) (d : decode cc pc = .ok (.aload_n f, 1)) (kk : Gq z k nL Q C (pc + 1) μ lv (.null :: st)) : Gq z k nL Q C pc μ lv st :=
  fun H locs ls hw hS hl => lv_aload_nN hx.1 hx.2.1 d hi (lv_at hl q hq) (kk H locs ls hw hS hl)
theorem r_aloadN (hx : Ok z k cc nL own ret h T) (q : Nat) {i : Nat} (hq : lv[q]? = some (i, .null)) (d : decode cc pc = .ok (.aload i, 2)) (kk : Gq z k nL Q C (pc + 2) μ lv (.null :: st)) : Gq z k nL Q C pc μ lv st :=
  fun H locs ls hw hS hl => lv_aloadN hx.1 hx.2.1 d (lv_at hl q hq) (kk H locs ls hw hS hl)
theorem r_istoren (hx : Ok z k cc nL own ret h T) {f : Fin 4} {i : Nat} {x : Int32} {lv' : List (Nat × Value)} (hi : (f : Nat) = i) (hn : i < nL) (hl' : (i, Value.int x) :: lv.filter (fun q => !(q.1 == i) && !(q.1 + 1 == i && q.2.category == 2)) = lv') (d : decode cc pc = .ok (.istore_n f, 1)) (kk : Gq z k nL Q C (pc + 1) μ lv' st) : Gq z k nL Q C pc μ lv (.int x :: st) :=
  fun H locs ls hw hS hl => lv_istore_n hx.1 hx.2.1 d hi hl hn hl' (fun ls' hl2 => kk H locs ls' hw hS hl2)
theorem r_istore (hx : Ok z k cc nL own ret h T) {i : Nat} {x : Int32} {lv' : List (Nat × Value)} (hn : i < nL) (hl' : (i, Value.int x) :: lv.filter (fun q => !(q.1 == i) && !(q.1 + 1 == i && q.2.category == 2)) = lv') (d : decode cc pc = .ok (.istore i, 2)) (kk : Gq z k nL Q C (pc + 2) μ lv' st) : Gq z k nL Q C pc μ lv (.int x :: st) :=
  fun H locs ls hw hS hl => lv_istore hx.1 hx.2.1 d hl hn hl' (fun ls' hl2 => kk H locs ls' hw hS hl2)
theorem r_lstoren (hx : Ok z k cc nL own ret h T) {f : Fin 4} {i : Nat} {x : Int64} {lv' : List (Nat × Value)} (hi : (f : Nat) = i) (hn : i + 1 < nL) (hl' : (i, Value.long x) :: lv.filter (fun q => !(q.1 == i) && (!(q.1 == i + 1) && !(q.1 + 1 == i && q.2.category == 2))) = lv') (d : decode cc pc = .ok (.lstore_n f, 1)) (kk : Gq z k nL Q C (pc + 1) μ lv' st) : Gq z k nL Q C pc μ lv (.long x :: st) :=
  fun H locs ls hw hS hl => lv_lstore_n hx.1 hx.2.1 d hi hl hn hl' (fun ls' hl2 => kk H locs ls' hw hS hl2)
theorem r_lstore (hx : Ok z k cc nL own ret h T) {i : Nat} {x : Int64} {lv' : List (Nat × Value)} (hn : i + 1 < nL) (hl' : (i, Value.long x) :: lv.filter (fun q => !(q.1 == i) && (!(q.1 == i + 1) && !(q.1 + 1 == i && q.2.category == 2))) = lv') (d : decode cc pc = .ok (.lstore i, 2)) (kk : Gq z k nL Q C (pc + 2) μ lv' st) : Gq z k nL Q C pc μ lv (.long x :: st) :=
  fun H locs ls hw hS hl => lv_lstore hx.1 hx.2.1 d hl hn hl' (fun ls' hl2 => kk H locs ls' hw hS hl2)
theorem r_astoren (hx : Ok z k cc nL own ret h T) {f : Fin 4} {i : Nat} {x : Nat} {lv' : List (Nat × Value)} (hi : (f : Nat) = i) (hn : i < nL) (hl' : (i, Value.ref x) :: lv.filter (fun q => !(q.1 == i) && !(q.1 + 1 == i && q.2.category == 2)) = lv') (d : decode cc pc = .ok (.astore_n f, 1)) (kk : Gq z k nL Q C (pc + 1) μ lv' st) : Gq z k nL Q C pc μ lv (.ref x :: st) :=
  fun H locs ls hw hS hl => lv_astore_n hx.1 hx.2.1 d hi hl hn hl' (fun ls' hl2 => kk H locs ls' hw hS hl2)
theorem r_astore (hx : Ok z k cc nL own ret h T) {i : Nat} {x : Nat} {lv' : List (Nat × Value)} (hn : i < nL) (hl' : (i, Value.ref x) :: lv.filter (fun q => !(q.1 == i) && !(q.1 + 1 == i && q.2.category == 2)) = lv') (d : decode cc pc = .ok (.astore i, 2)) (kk : Gq z k nL Q C (pc + 2) μ lv' st) : Gq z k nL Q C pc μ lv (.ref x :: st) :=
  fun H locs ls hw hS hl => lv_astore hx.1 hx.2.1 d hl hn hl' (fun ls' hl2 => kk H locs ls' hw hS hl2)
theorem r_astorenN (hx : Ok z k cc nL own ret h T) {f : Fin 4} {i : Nat} {lv' : List (Nat × Value)} (hi : (f : Nat) = i) (hn : i < nL) (hl' : (i, Value.null) :: lv.filter (fun q => !(q.1 == i) && !(q.1 + 1 == i && q.2.category == 2)) = lv') (d : decode cc pc = .ok (.astore_n f, 1)) (kk : Gq z k nL Q C (pc + 1) μ lv' st) : Gq z k nL Q C pc μ lv (.null :: st) :=
  fun H locs ls hw hS hl => lv_astore_nN hx.1 hx.2.1 d hi hl hn hl' (fun ls' hl2 => kk H locs ls' hw hS hl2)
theorem r_astoreN (hx : Ok z k cc nL own ret h T) {i : Nat} {lv' : List (Nat × Value)} (hn : i < nL) (hl' : (i, Value.null) :: lv.filter (fun q => !(q.1 == i) && !(q.1 + 1 == i && q.2.category == 2)) = lv') (d : decode cc pc = .ok (.astore i, 2)) (kk : Gq z k nL Q C (pc + 2) μ lv' st) : Gq z k nL Q C pc μ lv (.null :: st) :=
  fun H locs ls hw hS hl => lv_astoreN hx.1 hx.2.1 d hl hn hl' (fun ls' hl2 => kk H locs ls' hw hS hl2)
theorem r_iinc (hx : Ok z k cc nL own ret h T) (q : Nat) {i : Nat} {n : Int} {x v : Int32} {lv' : List (Nat × Value)} (hq : lv[q]? = some (i, .int x)) (hv : x + Int32.ofInt n = v) (hn : i < nL) (hl' : (i, Value.int v) :: lv.filter (fun q => !(q.1 == i) && !(q.1 + 1 == i && q.2.category == 2)) = lv') (d : decode cc pc = .ok (.iinc i n, 3)) (kk : Gq z k nL Q C (pc + 3) μ lv' st) : Gq z k nL Q C pc μ lv st :=
  fun H locs ls hw hS hl => lv_iinc hx.1 hx.2.1 d hl hq hv hn hl' (fun ls' hl2 => kk H locs ls' hw hS hl2)
theorem r_iadd (hx : Ok z k cc nL own ret h T) {x y : Int32} (d : decode cc pc = .ok (.iadd, 1)) (kk : Gq z k nL Q C (pc + 1) μ lv (.int (x + y) :: st)) : Gq z k nL Q C pc μ lv (.int y :: .int x :: st) :=
  fun H locs ls hw hS hl => lv_iadd hx.1 hx.2.1 d (kk H locs ls hw hS hl)
theorem r_isub (hx : Ok z k cc nL own ret h T) {x y : Int32} (d : decode cc pc = .ok (.isub, 1)) (kk : Gq z k nL Q C (pc + 1) μ lv (.int (x - y) :: st)) : Gq z k nL Q C pc μ lv (.int y :: .int x :: st) :=
  fun H locs ls hw hS hl => lv_isub hx.1 hx.2.1 d (kk H locs ls hw hS hl)
theorem r_imul (hx : Ok z k cc nL own ret h T) {x y : Int32} (d : decode cc pc = .ok (.imul, 1)) (kk : Gq z k nL Q C (pc + 1) μ lv (.int (x * y) :: st)) : Gq z k nL Q C pc μ lv (.int y :: .int x :: st) :=
  fun H locs ls hw hS hl => lv_imul hx.1 hx.2.1 d (kk H locs ls hw hS hl)
theorem r_iand (hx : Ok z k cc nL own ret h T) {x y : Int32} (d : decode cc pc = .ok (.iand, 1)) (kk : Gq z k nL Q C (pc + 1) μ lv (.int (x &&& y) :: st)) : Gq z k nL Q C pc μ lv (.int y :: .int x :: st) :=
  fun H locs ls hw hS hl => lv_iand hx.1 hx.2.1 d (kk H locs ls hw hS hl)
theorem r_ior (hx : Ok z k cc nL own ret h T) {x y : Int32} (d : decode cc pc = .ok (.ior, 1)) (kk : Gq z k nL Q C (pc + 1) μ lv (.int (x ||| y) :: st)) : Gq z k nL Q C pc μ lv (.int y :: .int x :: st) :=
  fun H locs ls hw hS hl => lv_ior hx.1 hx.2.1 d (kk H locs ls hw hS hl)
theorem r_ixor (hx : Ok z k cc nL own ret h T) {x y : Int32} (d : decode cc pc = .ok (.ixor, 1)) (kk : Gq z k nL Q C (pc + 1) μ lv (.int (x ^^^ y) :: st)) : Gq z k nL Q C pc μ lv (.int y :: .int x :: st) :=
  fun H locs ls hw hS hl => lv_ixor hx.1 hx.2.1 d (kk H locs ls hw hS hl)
theorem r_idiv (hx : Ok z k cc nL own ret h T) {x y : Int32} (hy : ¬ y = 0) (d : decode cc pc = .ok (.idiv, 1)) (kk : Gq z k nL Q C (pc + 1) μ lv (.int (x / y) :: st)) : Gq z k nL Q C pc μ lv (.int y :: .int x :: st) :=
  fun H locs ls hw hS hl => lv_idiv hx.1 hx.2.1 d hy (kk H locs ls hw hS hl)
def irm (x y : Int32) : Int32 := x - x / y * y
def usr (x y : Int32) : Int32 := (x.toUInt32 >>> (y.toUInt32 &&& Int32.toUInt32 31)).toInt32
def ab (x : Int32) : Int32 := if 0 ≤ x then x else 0 - x
def mx (x y : Int32) : Int32 := if x < y then y else x
def mn (x y : Int32) : Int32 := if y < x then y else x
theorem r_irem (hx : Ok z k cc nL own ret h T) {x y : Int32} (hy : ¬ y = 0) (d : decode cc pc = .ok (.irem, 1)) (kk : Gq z k nL Q C (pc + 1) μ lv (.int (irm x y) :: st)) : Gq z k nL Q C pc μ lv (.int y :: .int x :: st) :=
  fun H locs ls hw hS hl => lv_irem hx.1 hx.2.1 d hy (kk H locs ls hw hS hl)
theorem r_ineg (hx : Ok z k cc nL own ret h T) {x : Int32} (d : decode cc pc = .ok (.ineg, 1)) (kk : Gq z k nL Q C (pc + 1) μ lv (.int (-x) :: st)) : Gq z k nL Q C pc μ lv (.int x :: st) :=
  fun H locs ls hw hS hl => lv_ineg hx.1 hx.2.1 d (kk H locs ls hw hS hl)
theorem r_ishl (hx : Ok z k cc nL own ret h T) {x y : Int32} (d : decode cc pc = .ok (.ishl, 1)) (kk : Gq z k nL Q C (pc + 1) μ lv (.int (x <<< (y &&& 31)) :: st)) : Gq z k nL Q C pc μ lv (.int y :: .int x :: st) :=
  fun H locs ls hw hS hl => lv_ishl hx.1 hx.2.1 d (kk H locs ls hw hS hl)
theorem r_ishr (hx : Ok z k cc nL own ret h T) {x y : Int32} (d : decode cc pc = .ok (.ishr, 1)) (kk : Gq z k nL Q C (pc + 1) μ lv (.int (x >>> (y &&& 31)) :: st)) : Gq z k nL Q C pc μ lv (.int y :: .int x :: st) :=
  fun H locs ls hw hS hl => lv_ishr hx.1 hx.2.1 d (kk H locs ls hw hS hl)
theorem r_iushr (hx : Ok z k cc nL own ret h T) {x y : Int32} (d : decode cc pc = .ok (.iushr, 1)) (kk : Gq z k nL Q C (pc + 1) μ lv (.int (usr x y) :: st)) : Gq z k nL Q C pc μ lv (.int y :: .int x :: st) :=
  fun H locs ls hw hS hl => lv_iushr hx.1 hx.2.1 d rfl (kk H locs ls hw hS hl)
theorem r_i2b (hx : Ok z k cc nL own ret h T) {x : Int32} (d : decode cc pc = .ok (.i2b, 1)) (kk : Gq z k nL Q C (pc + 1) μ lv (.int x.toInt8.toInt32 :: st)) : Gq z k nL Q C pc μ lv (.int x :: st) :=
  fun H locs ls hw hS hl => lv_i2b hx.1 hx.2.1 d rfl (kk H locs ls hw hS hl)
theorem r_i2l (hx : Ok z k cc nL own ret h T) {x : Int32} (d : decode cc pc = .ok (.i2l, 1)) (kk : Gq z k nL Q C (pc + 1) μ lv (.long x.toInt64 :: st)) : Gq z k nL Q C pc μ lv (.int x :: st) :=
  fun H locs ls hw hS hl => lv_i2l hx.1 hx.2.1 d rfl (kk H locs ls hw hS hl)
theorem r_ladd (hx : Ok z k cc nL own ret h T) {x y : Int64} (d : decode cc pc = .ok (.ladd, 1)) (kk : Gq z k nL Q C (pc + 1) μ lv (.long (x + y) :: st)) : Gq z k nL Q C pc μ lv (.long y :: .long x :: st) :=
  fun H locs ls hw hS hl => lv_ladd hx.1 hx.2.1 d (kk H locs ls hw hS hl)
theorem r_lmul (hx : Ok z k cc nL own ret h T) {x y : Int64} (d : decode cc pc = .ok (.lmul, 1)) (kk : Gq z k nL Q C (pc + 1) μ lv (.long (x * y) :: st)) : Gq z k nL Q C pc μ lv (.long y :: .long x :: st) :=
  fun H locs ls hw hS hl => lv_lmul hx.1 hx.2.1 d (kk H locs ls hw hS hl)
theorem r_lcmp (hx : Ok z k cc nL own ret h T) {x y : Int64} (d : decode cc pc = .ok (.lcmp, 1)) (kk : Gq z k nL Q C (pc + 1) μ lv (.int (lg_cmp x y) :: st)) : Gq z k nL Q C pc μ lv (.long y :: .long x :: st) :=
  fun H locs ls hw hS hl => W.lcmp hx.1 hx.2.1 d (kk H locs ls hw hS hl)
theorem r_dup (hx : Ok z k cc nL own ret h T) {v : Value} (hv : v.category = 1) (d : decode cc pc = .ok (.dup, 1)) (kk : Gq z k nL Q C (pc + 1) μ lv (v :: v :: st)) : Gq z k nL Q C pc μ lv (v :: st) :=
  fun H locs ls hw hS hl => lv_dup hx.1 hx.2.1 d hv (kk H locs ls hw hS hl)
theorem r_dup2 (hx : Ok z k cc nL own ret h T) {v w : Value} (hv : v.category = 1) (hv2 : w.category = 1) (d : decode cc pc = .ok (.dup2, 1)) (kk : Gq z k nL Q C (pc + 1) μ lv (v :: w :: v :: w :: st)) : Gq z k nL Q C pc μ lv (v :: w :: st) :=
  fun H locs ls hw hS hl => lv_dup2_11 hx.1 hx.2.1 d hv hv2 (kk H locs ls hw hS hl)
theorem r_pop (hx : Ok z k cc nL own ret h T) {v : Value} (hv : v.category = 1) (d : decode cc pc = .ok (.pop, 1)) (kk : Gq z k nL Q C (pc + 1) μ lv st) : Gq z k nL Q C pc μ lv (v :: st) :=
  fun H locs ls hw hS hl => lv_pop hx.1 hx.2.1 d hv (kk H locs ls hw hS hl)
theorem r_goto (hx : Ok z k cc nL own ret h T) {off : Int} {tgt : Nat} (ht : (pc : Int) + off = (tgt : Int)) (d : decode cc pc = .ok (.goto off, 3)) (kk : Gq z k nL Q C tgt μ lv st) : Gq z k nL Q C pc μ lv st :=
  fun H locs ls hw hS hl => lv_goto hx.1 hx.2.1 d ht (kk H locs ls hw hS hl)
theorem r_ifeq (hx : Ok z k cc nL own ret h T) {x : Int32} {off : Int} {tgt : Nat} (ht : (pc : Int) + off = (tgt : Int)) (d : decode cc pc = .ok (.ifCond .eq off, 3)) (kt : x = 0 → Gq z k nL Q C tgt μ lv st) (kf : ¬ x = 0 → Gq z k nL Q C (pc + 3) μ lv st) : Gq z k nL Q C pc μ lv (.int x :: st) :=
  fun H locs ls hw hS hl => lv_if_eq hx.1 hx.2.1 d ht (fun q => kt q H locs ls hw hS hl) (fun q => kf q H locs ls hw hS hl)
theorem r_iceq (hx : Ok z k cc nL own ret h T) {x y : Int32} {off : Int} {tgt : Nat} (ht : (pc : Int) + off = (tgt : Int)) (d : decode cc pc = .ok (.if_icmp .eq off, 3)) (kt : x = y → Gq z k nL Q C tgt μ lv st) (kf : ¬ x = y → Gq z k nL Q C (pc + 3) μ lv st) : Gq z k nL Q C pc μ lv (.int y :: .int x :: st) :=
  fun H locs ls hw hS hl => lv_icmp_eq hx.1 hx.2.1 d ht (fun q => kt q H locs ls hw hS hl) (fun q => kf q H locs ls hw hS hl)
theorem r_ifne (hx : Ok z k cc nL own ret h T) {x : Int32} {off : Int} {tgt : Nat} (ht : (pc : Int) + off = (tgt : Int)) (d : decode cc pc = .ok (.ifCond .ne off, 3)) (kt : ¬ x = 0 → Gq z k nL Q C tgt μ lv st) (kf : x = 0 → Gq z k nL Q C (pc + 3) μ lv st) : Gq z k nL Q C pc μ lv (.int x :: st) :=
  fun H locs ls hw hS hl => lv_if_ne hx.1 hx.2.1 d ht (fun q => kt q H locs ls hw hS hl) (fun q => kf q H locs ls hw hS hl)
theorem r_icne (hx : Ok z k cc nL own ret h T) {x y : Int32} {off : Int} {tgt : Nat} (ht : (pc : Int) + off = (tgt : Int)) (d : decode cc pc = .ok (.if_icmp .ne off, 3)) (kt : ¬ x = y → Gq z k nL Q C tgt μ lv st) (kf : x = y → Gq z k nL Q C (pc + 3) μ lv st) : Gq z k nL Q C pc μ lv (.int y :: .int x :: st) :=
  fun H locs ls hw hS hl => lv_icmp_ne hx.1 hx.2.1 d ht (fun q => kt q H locs ls hw hS hl) (fun q => kf q H locs ls hw hS hl)
theorem r_iflt (hx : Ok z k cc nL own ret h T) {x : Int32} {off : Int} {tgt : Nat} (ht : (pc : Int) + off = (tgt : Int)) (d : decode cc pc = .ok (.ifCond .lt off, 3)) (kt : x < 0 → Gq z k nL Q C tgt μ lv st) (kf : ¬ x < 0 → Gq z k nL Q C (pc + 3) μ lv st) : Gq z k nL Q C pc μ lv (.int x :: st) :=
  fun H locs ls hw hS hl => lv_if_lt hx.1 hx.2.1 d ht (fun q => kt q H locs ls hw hS hl) (fun q => kf q H locs ls hw hS hl)
theorem r_iclt (hx : Ok z k cc nL own ret h T) {x y : Int32} {off : Int} {tgt : Nat} (ht : (pc : Int) + off = (tgt : Int)) (d : decode cc pc = .ok (.if_icmp .lt off, 3)) (kt : x < y → Gq z k nL Q C tgt μ lv st) (kf : ¬ x < y → Gq z k nL Q C (pc + 3) μ lv st) : Gq z k nL Q C pc μ lv (.int y :: .int x :: st) :=
  fun H locs ls hw hS hl => lv_icmp_lt hx.1 hx.2.1 d ht (fun q => kt q H locs ls hw hS hl) (fun q => kf q H locs ls hw hS hl)
theorem r_ifge (hx : Ok z k cc nL own ret h T) {x : Int32} {off : Int} {tgt : Nat} (ht : (pc : Int) + off = (tgt : Int)) (d : decode cc pc = .ok (.ifCond .ge off, 3)) (kt : 0 ≤ x → Gq z k nL Q C tgt μ lv st) (kf : ¬ 0 ≤ x → Gq z k nL Q C (pc + 3) μ lv st) : Gq z k nL Q C pc μ lv (.int x :: st) :=
  fun H locs ls hw hS hl => lv_if_ge hx.1 hx.2.1 d ht (fun q => kt q H locs ls hw hS hl) (fun q => kf q H locs ls hw hS hl)
theorem r_icge (hx : Ok z k cc nL own ret h T) {x y : Int32} {off : Int} {tgt : Nat} (ht : (pc : Int) + off = (tgt : Int)) (d : decode cc pc = .ok (.if_icmp .ge off, 3)) (kt : y ≤ x → Gq z k nL Q C tgt μ lv st) (kf : ¬ y ≤ x → Gq z k nL Q C (pc + 3) μ lv st) : Gq z k nL Q C pc μ lv (.int y :: .int x :: st) :=
  fun H locs ls hw hS hl => lv_icmp_ge hx.1 hx.2.1 d ht (fun q => kt q H locs ls hw hS hl) (fun q => kf q H locs ls hw hS hl)
theorem r_ifgt (hx : Ok z k cc nL own ret h T) {x : Int32} {off : Int} {tgt : Nat} (ht : (pc : Int) + off = (tgt : Int)) (d : decode cc pc = .ok (.ifCond .gt off, 3)) (kt : 0 < x → Gq z k nL Q C tgt μ lv st) (kf : ¬ 0 < x → Gq z k nL Q C (pc + 3) μ lv st) : Gq z k nL Q C pc μ lv (.int x :: st) :=
  fun H locs ls hw hS hl => lv_if_gt hx.1 hx.2.1 d ht (fun q => kt q H locs ls hw hS hl) (fun q => kf q H locs ls hw hS hl)
theorem r_icgt (hx : Ok z k cc nL own ret h T) {x y : Int32} {off : Int} {tgt : Nat} (ht : (pc : Int) + off = (tgt : Int)) (d : decode cc pc = .ok (.if_icmp .gt off, 3)) (kt : y < x → Gq z k nL Q C tgt μ lv st) (kf : ¬ y < x → Gq z k nL Q C (pc + 3) μ lv st) : Gq z k nL Q C pc μ lv (.int y :: .int x :: st) :=
  fun H locs ls hw hS hl => lv_icmp_gt hx.1 hx.2.1 d ht (fun q => kt q H locs ls hw hS hl) (fun q => kf q H locs ls hw hS hl)
theorem r_ifle (hx : Ok z k cc nL own ret h T) {x : Int32} {off : Int} {tgt : Nat} (ht : (pc : Int) + off = (tgt : Int)) (d : decode cc pc = .ok (.ifCond .le off, 3)) (kt : x ≤ 0 → Gq z k nL Q C tgt μ lv st) (kf : ¬ x ≤ 0 → Gq z k nL Q C (pc + 3) μ lv st) : Gq z k nL Q C pc μ lv (.int x :: st) :=
  fun H locs ls hw hS hl => lv_if_le hx.1 hx.2.1 d ht (fun q => kt q H locs ls hw hS hl) (fun q => kf q H locs ls hw hS hl)
theorem r_icle (hx : Ok z k cc nL own ret h T) {x y : Int32} {off : Int} {tgt : Nat} (ht : (pc : Int) + off = (tgt : Int)) (d : decode cc pc = .ok (.if_icmp .le off, 3)) (kt : x ≤ y → Gq z k nL Q C tgt μ lv st) (kf : ¬ x ≤ y → Gq z k nL Q C (pc + 3) μ lv st) : Gq z k nL Q C pc μ lv (.int y :: .int x :: st) :=
  fun H locs ls hw hS hl => lv_icmp_le hx.1 hx.2.1 d ht (fun q => kt q H locs ls hw hS hl) (fun q => kf q H locs ls hw hS hl)
theorem r_nullN (hx : Ok z k cc nL own ret h T) {off : Int} {tgt : Nat} (ht : (pc : Int) + off = (tgt : Int)) (d : decode cc pc = .ok (.ifnull off, 3)) (kk : Gq z k nL Q C tgt μ lv st) : Gq z k nL Q C pc μ lv (.null :: st) :=
  fun H locs ls hw hS hl => lv_ifnullN hx.1 hx.2.1 d ht (kk H locs ls hw hS hl)
theorem r_nullS (hx : Ok z k cc nL own ret h T) {x : Nat} {off : Int} (d : decode cc pc = .ok (.ifnull off, 3)) (kk : Gq z k nL Q C (pc + 3) μ lv st) : Gq z k nL Q C pc μ lv (.ref x :: st) :=
  fun H locs ls hw hS hl => lv_ifnull hx.1 hx.2.1 d (kk H locs ls hw hS hl)
theorem r_nonnullN (hx : Ok z k cc nL own ret h T) {off : Int} (d : decode cc pc = .ok (.ifnonnull off, 3)) (kk : Gq z k nL Q C (pc + 3) μ lv st) : Gq z k nL Q C pc μ lv (.null :: st) :=
  fun H locs ls hw hS hl => lv_ifnonnullN hx.1 hx.2.1 d (kk H locs ls hw hS hl)
theorem r_nonnullS (hx : Ok z k cc nL own ret h T) {x : Nat} {off : Int} {tgt : Nat} (ht : (pc : Int) + off = (tgt : Int)) (d : decode cc pc = .ok (.ifnonnull off, 3)) (kk : Gq z k nL Q C tgt μ lv st) : Gq z k nL Q C pc μ lv (.ref x :: st) :=
  fun H locs ls hw hS hl => lv_ifnonnull hx.1 hx.2.1 d ht (kk H locs ls hw hS hl)
theorem r_null (hx : Ok z k cc nL own ret h T) (d : decode cc pc = .ok (.aconst_null, 1)) (kk : Gq z k nL Q C (pc + 1) μ lv (.null :: st)) : Gq z k nL Q C pc μ lv st :=
  fun H locs ls hw hS hl => lv_null hx.1 hx.2.1 d (kk H locs ls hw hS hl)
theorem r_lookup (hx : Ok z k cc nL own ret h T) {dflt : Int} {ps : Array (Int × Int)} {len : Nat} {x : Int32} {off : Int} {tgt : Nat} (hp : (ps.toList.zip (ps.toList.drop 1)).all (fun (a, next) => a.1 < next.1) = true) (ho : Op.lookupswitch.offset ps.toList dflt x.toInt = off) (ht : (pc : Int) + off = (tgt : Int)) (d : decode cc pc = .ok (.lookupswitch dflt ps, len)) (kk : Gq z k nL Q C tgt μ lv st) : Gq z k nL Q C pc μ lv (.int x :: st) :=
  fun H locs ls hw hS hl => lv_lookup hx.1 hx.2.1 d hp ho ht (kk H locs ls hw hS hl)
theorem r_tableOut (hx : Ok z k cc nL own ret h T) {dflt lo hi : Int} {offs : Array Int} {len : Nat} {x : Int32} {tgt : Nat} (hr : x.toInt < lo ∨ hi < x.toInt) (ht : (pc : Int) + dflt = (tgt : Int)) (d : decode cc pc = .ok (.tableswitch dflt lo hi offs, len)) (kk : Gq z k nL Q C tgt μ lv st) : Gq z k nL Q C pc μ lv (.int x :: st) :=
  fun H locs ls hw hS hl => lv_tableOut hx.1 hx.2.1 d hr ht (kk H locs ls hw hS hl)
theorem r_tableIn (hx : Ok z k cc nL own ret h T) {dflt lo hi : Int} {offs : Array Int} {len : Nat} {x : Int32} {off : Int} {tgt : Nat} (h1 : ¬ x.toInt < lo) (h2 : ¬ hi < x.toInt) (ho : offs[(x.toInt - lo).toNat]? = some off) (ht : (pc : Int) + off = (tgt : Int)) (d : decode cc pc = .ok (.tableswitch dflt lo hi offs, len)) (kk : Gq z k nL Q C tgt μ lv st) : Gq z k nL Q C pc μ lv (.int x :: st) :=
  fun H locs ls hw hS hl => lv_tableIn hx.1 hx.2.1 d h1 h2 ho ht (kk H locs ls hw hS hl)
/-- the locals are read anew: fewer, in any order -/
theorem r_sub {lv' : List (Nat × Value)} (ps : List Nat) (hp : lv_pick lv ps = lv') (kk : Gq z k nL Q C pc μ lv' st) : Gq z k nL Q C pc μ lv st :=
  fun H locs ls hw hS hl => kk H locs ls hw hS (lv_sub hl ps hp)
/-! fields -/
def CK (c : Nat) (C : String) (T : u_T) (N : Nat) : Prop :=
  classes[c]? = some (C, T, N) ∧ (∀ w ∈ u_ws C T N, w ∈ lw_g) ∧ (∃ ty : Nat → FieldType, ∀ k, k < N → parseFieldDescriptor (T k).2.2.1 = some (ty k)) ∧ ∀ a, a < N → ∀ b, b < N → a ≠ b → (T a).2.1 ≠ (T b).2.1
def FK (c j : Nat) (C n d : String) (kind : Nat) : Prop := ∃ (T : u_T) (N : Nat), CK c C T N ∧ nf c = N ∧ j < N ∧ ((T j).1, (T j).2.1, (T j).2.2.1) = (C, n, d) ∧ kd c j = kind
theorem cel_obj {k : Kx} {μ : Mm} {c i : Nat} (hc : c < 20) : cel k μ c i = .inr (c, flds k c i (μ.1 c i) (μ.2 c i)) := if_pos hc
theorem cel_arr {k : Kx} {μ : Mm} {c i : Nat} (hc : ¬ c < 20) : cel k μ c i = .inl (kA k (ak c), (al c, acel k c i (μ.1 c i) (μ.2 c i))) := if_neg hc
theorem nf_lt {c : Nat} {j : Nat} (h : j < nf c) : c < 20 := by
  rcases Nat.lt_or_ge c 20 with q | q
  · exact q
  · unfold nf at h
    split at h <;> omega
theorem sing {α : Type} {a : α} : ([a] : List α)[0]? = some a := rfl
/-- a field is read -/
theorem r_get (hx : Ok z k cc nL own ret h T) {c i j idx kind : Nat} {Cn n d : String} (hF : FK c j Cn n d kind) (he : kex k c i) (hl : Cond.fieldLink own idx Cn n d ∈ lw_g) {v : Value} (hv : fval k c i j (gi μ c i j) (gj μ c i j) = v) (dd : decode cc pc = .ok (.getfield idx, 3))
    (kk : Gq z k nL Q C (pc + 3) μ lv (v :: st)) : Gq z k nL Q C pc μ lv (.ref (kad k c i) :: st) := by
  obtain ⟨TT, N, ⟨hc, hin, -, -⟩, hN, hj, hT, -⟩ := hF
  injection hT with e1 e2
  injection e2 with e2 e3
  subst e1; subst e2; subst e3; subst hN; subst hv
  intro H locs ls hw hS hl'
  have hP : va_P (kD k) classes [(kad k c i, cel k μ c i)] H := fun q x hq => by
    have h0 : q < 1 := (List.getElem?_eq_some_iff.mp hq).1
    have h1 : q = 0 := by omega
    subst h1
    cases hq
    exact hw.1 c i he
  rw [cel_obj (nf_lt hj)] at hP
  exact va_get hx.1 hx.2.1 (Ts := lw_g) hx.2.2.2.2.1 hin hx.2.2.2.1 hx.2.2.2.2.2.1 hP 0 rfl hc j hj (hx.2.2.2.2.1 _ hl) (fun _ h9 => h9) (flds_get hj) dd (kk H locs ls hw hS hl')
theorem r_getI (hx : Ok z k cc nL own ret h T) {c i j idx : Nat} {Cn n d : String} (hF : FK c j Cn n d 0) (he : kex k c i) (hl : Cond.fieldLink own idx Cn n d ∈ lw_g) (dd : decode cc pc = .ok (.getfield idx, 3))
    (kk : Gq z k nL Q C (pc + 3) μ lv (.int (gi μ c i j) :: st)) : Gq z k nL Q C pc μ lv (.ref (kad k c i) :: st) :=
  r_get hx hF he hl (by obtain ⟨-, -, -, -, -, -, h0⟩ := hF; simp only [fval, h0]) dd kk
theorem r_getL (hx : Ok z k cc nL own ret h T) {c i j idx : Nat} {Cn n d : String} (hF : FK c j Cn n d 1) (he : kex k c i) (hl : Cond.fieldLink own idx Cn n d ∈ lw_g) (dd : decode cc pc = .ok (.getfield idx, 3))
    (kk : Gq z k nL Q C (pc + 3) μ lv (.long (gj μ c i j) :: st)) : Gq z k nL Q C pc μ lv (.ref (kad k c i) :: st) :=
  r_get hx hF he hl (by obtain ⟨-, -, -, -, -, -, h0⟩ := hF; simp only [fval, h0]) dd kk
theorem r_getR (hx : Ok z k cc nL own ret h T) {c i j idx c' i' : Nat} {Cn n d : String} (hF : FK c j Cn n d 2) (he : kex k c i) (hr : rt c i j = (c', i')) (hl : Cond.fieldLink own idx Cn n d ∈ lw_g) (dd : decode cc pc = .ok (.getfield idx, 3))
    (kk : kex k c' i' → Gq z k nL Q C (pc + 3) μ lv (.ref (kad k c' i') :: st)) : Gq z k nL Q C pc μ lv (.ref (kad k c i) :: st) := by
  have hk : kd c j = 2 := by obtain ⟨-, -, -, -, -, -, h0⟩ := hF; exact h0
  refine r_get hx hF he hl (v := .ref (kad k c' i')) (by simp only [fval, hk, hr]) dd (kk ?_)
  have := hx.2.2.2.2.2.2.2.1.2.2.2.1 c i j hk he
  rw [hr] at this
  exact this
theorem r_getT (hx : Ok z k cc nL own ret h T) {c i j idx : Nat} {Cn n d : String} (hF : FK c j Cn n d 3) (he : kex k c i) (hc : c = 11 ∨ c = 2) (hl : Cond.fieldLink own idx Cn n d ∈ lw_g) (dd : decode cc pc = .ok (.getfield idx, 3))
    (kk : kex k 8 (tx (gi μ c i j)) → Gq z k nL Q C (pc + 3) μ lv (.ref (kad k 8 (tx (gi μ c i j))) :: st)) : Gq z k nL Q C pc μ lv (.ref (kad k c i) :: st) := by
  have hk : kd c j = 3 := by obtain ⟨-, -, -, -, -, -, h0⟩ := hF; exact h0
  refine r_get hx hF he hl (v := .ref (kad k 8 (tx (gi μ c i j)))) (by simp only [fval, hk]) dd (kk ?_)
  have := hx.2.2.2.2.2.2.2.1.2.2.2.2.2.1 c i he hc
  unfold tx
  split
  · exact this.1
  · exact this.2
theorem r_getN (hx : Ok z k cc nL own ret h T) {c i j idx c' i' : Nat} {Cn n d : String} (hF : FK c j Cn n d 4) (he : kex k c i) (hr : rt c i j = (c', i')) (hl : Cond.fieldLink own idx Cn n d ∈ lw_g) (dd : decode cc pc = .ok (.getfield idx, 3))
    (k0 : gi μ c i j = 0 → Gq z k nL Q C (pc + 3) μ lv (.null :: st)) (k1 : ¬ gi μ c i j = 0 → kex k c' i' → Gq z k nL Q C (pc + 3) μ lv (.ref (kad k c' i') :: st)) : Gq z k nL Q C pc μ lv (.ref (kad k c i) :: st) := by
  have hk : kd c j = 4 := by obtain ⟨-, -, -, -, -, -, h0⟩ := hF; exact h0
  by_cases h0 : gi μ c i j = 0
  · exact r_get hx hF he hl (v := .null) (by simp only [fval, hk, h0]; rfl) dd (k0 h0)
  · intro H locs ls hw hS hl'
    have he' : kex k c' i' := by
      have := hw.2.2 c i j hk he h0
      rw [hr] at this
      exact this
    exact r_get hx hF he hl (v := .ref (kad k c' i')) (by simp only [fval, hk, hr]; exact if_neg h0) dd (k1 h0 he') H locs ls hw hS hl'
/-- a field is written -/
theorem r_put (hx : Ok z k cc nL own ret h T) {c i j idx kind : Nat} {Cn n d : String} {μ1 : Mm} {ty : FieldType} {v : Value} (hF : FK c j Cn n d kind) (hfin : ∀ (TT : u_T) (N : Nat), classes[c]? = some (Cn, TT, N) → (TT j).2.2.2 = false) (he : kex k c i) (hl : Cond.fieldLink own idx Cn n d ∈ lw_g) (hd : parseFieldDescriptor d = some ty) (hn : narrow ty v = v) (hfit : fits ty v = true)
    (hv : fval k c i j (gi μ1 c i j) (gj μ1 c i j) = v) (h1 : ∀ c' i', ¬ (c' = c ∧ i' = i) → μ1.1 c' i' = μ.1 c' i' ∧ μ1.2 c' i' = μ.2 c' i') (h2 : ∀ t, t ≠ j → μ1.1 c i t = μ.1 c i t ∧ μ1.2 c i t = μ.2 c i t) (hk4 : kd c j ≠ 4)
    (dd : decode cc pc = .ok (.putfield idx, 3)) (kk : Gq z k nL Q C (pc + 3) μ1 lv st) : Gq z k nL Q C pc μ lv (v :: .ref (kad k c i) :: st) := by
  obtain ⟨TT, N, ⟨hc, hin, ⟨ty0, hty⟩, hnm⟩, hN, hj, hT, -⟩ := hF
  have hff := hfin TT N hc
  injection hT with e1 e2
  injection e2 with e2 e3
  subst e1; subst e2; subst e3; subst hN
  intro H locs ls hw hS hl'
  obtain ⟨hexec, hb, -, hown, hts, hK, -, hok, -⟩ := hx
  have hap := va_apart (own := own) hts hin ty0 hty hnm hK hc
  have hcell := hw.1 c i he
  rw [cel_obj (nf_lt hj)] at hcell
  obtain ⟨r, g1, cell, q1, q2, q3, q4⟩ := hcell
  have hr : r = _ := Option.some.inj (g1.symm.trans hc)
  subst hr
  obtain ⟨hSl, hfc, kC, hkC, hkind⟩ := hK.1 c _ hc
  obtain ⟨cf, kf, fi, f, hi, hsl⟩ := hSl j hj
  have hlay := hts _ (hin _ (u_in_lay hj))
  unfold u_lay at hlay
  rw [if_neg (by rw [hff]; decide)] at hlay
  have hst := (u_facts hfc hkC (u_lays hts hin hj) hi).1
  have h6 := u_store hfc hkC hkind hlay hi hd hn hfit
  refine W.putK hexec hb (f := f) ⟨hown, hts _ hl, ⟨_, _, _, hi⟩, hst⟩ (by rw [q2]; exact h6) q1 q3 (by rw [hsl]; exact k2_hasslot (q4 j hj)) rfl rfl dd fun H' e1 e2 e3 => ?_
  rw [hsl] at e1 ⊢
  have hset : (flds k c i (μ.1 c i) (μ.2 c i)).set j v = flds k c i (μ1.1 c i) (μ1.2 c i) := flds_set hv (fun t ht => (h2 t ht).1) (fun t ht => (h2 t ht).2)
  refine kk H' _ ls (wd_put hok hw he ?_ e3 (fun c' i' hne => cel_ne (h1 c' i' hne).1 (h1 c' i' hne).2) ?_) ⟨hS.1.put e2 e3 (hok.2.2.1 c i he), e2.trans hS.2⟩ hl'
  · rw [cel_obj (nf_lt hj), ← hset]
    exact ⟨_, hc, t_OB.to (V := updV (vp_V (flds k c i (μ.1 c i) (μ.2 c i))) j v) ⟨_, e1, q2, q3, t_set q4 hap hj v⟩ (fun t _ => vp_updV_set (by rw [flds_len]; exact hj) v t)⟩
  · intro c2 i2 j2 hk2 he2 hg2
    refine hw.2.2 c2 i2 j2 hk2 he2 (fun q => hg2 ?_)
    show μ1.1 c2 i2 j2 = 0
    have q : μ.1 c2 i2 j2 = 0 := q
    by_cases hne : c2 = c ∧ i2 = i
    · obtain ⟨rfl, rfl⟩ := hne
      have hj2 : j2 ≠ j := fun e => hk4 (by rw [← e]; exact hk2)
      rw [(h2 j2 hj2).1, q]
    · rw [(h1 c2 i2 hne).1, q]
theorem r_putI (hx : Ok z k cc nL own ret h T) {c i j idx : Nat} {Cn n d : String} {ty : FieldType} {v : Int32} (hF : FK c j Cn n d 0) (hfin : ∀ (TT : u_T) (N : Nat), classes[c]? = some (Cn, TT, N) → (TT j).2.2.2 = false) (he : kex k c i) (hl : Cond.fieldLink own idx Cn n d ∈ lw_g) (hd : parseFieldDescriptor d = some ty) (hn : narrow ty (.int v) = .int v) (hfit : fits ty (.int v) = true)
    (dd : decode cc pc = .ok (.putfield idx, 3)) (kk : Gq z k nL Q C (pc + 3) (si μ c i j v) lv st) : Gq z k nL Q C pc μ lv (.int v :: .ref (kad k c i) :: st) := by
  have hk : kd c j = 0 := by obtain ⟨-, -, -, -, -, -, h0⟩ := hF; exact h0
  refine r_put hx hF hfin he hl hd hn hfit (μ1 := si μ c i j v) ?_ (fun c' i' hne => ⟨mi_ne hne, rfl⟩) (fun t ht => ⟨?_, rfl⟩) (by rw [hk]; decide) dd kk
  · simp only [fval, hk]
    show Value.int (if c = c ∧ i = i ∧ j = j then v else _) = _
    simp
  · rw [mi_eq]
    exact if_neg ht
theorem r_putL (hx : Ok z k cc nL own ret h T) {c i j idx : Nat} {Cn n d : String} {v : Int64} (hF : FK c j Cn n d 1) (hfin : ∀ (TT : u_T) (N : Nat), classes[c]? = some (Cn, TT, N) → (TT j).2.2.2 = false) (he : kex k c i) (hl : Cond.fieldLink own idx Cn n d ∈ lw_g) (hd : parseFieldDescriptor d = some .long)
    (dd : decode cc pc = .ok (.putfield idx, 3)) (kk : Gq z k nL Q C (pc + 3) (sj μ c i j v) lv st) : Gq z k nL Q C pc μ lv (.long v :: .ref (kad k c i) :: st) := by
  have hk : kd c j = 1 := by obtain ⟨-, -, -, -, -, -, h0⟩ := hF; exact h0
  refine r_put hx hF hfin he hl hd rfl rfl (μ1 := sj μ c i j v) ?_ (fun c' i' hne => ⟨rfl, mj_ne hne⟩) (fun t ht => ⟨rfl, ?_⟩) (by rw [hk]; decide) dd kk
  · simp only [fval, hk]
    show Value.long (if c = c ∧ i = i ∧ j = j then v else _) = _
    simp
  · rw [mj_eq]
    exact if_neg ht
theorem r_putT (hx : Ok z k cc nL own ret h T) {c i j idx t : Nat} {v : Int32} {Cn n d : String} (hF : FK c j Cn n d 3) (hfin : ∀ (TT : u_T) (N : Nat), classes[c]? = some (Cn, TT, N) → (TT j).2.2.2 = false) (he : kex k c i) (hl : Cond.fieldLink own idx Cn n d ∈ lw_g) (hd : parseFieldDescriptor d = some (.object "RopeDance$Text")) (ht : tx v = t)
    (dd : decode cc pc = .ok (.putfield idx, 3)) (kk : Gq z k nL Q C (pc + 3) (si μ c i j v) lv st) : Gq z k nL Q C pc μ lv (.ref (kad k 8 t) :: .ref (kad k c i) :: st) := by
  have hk : kd c j = 3 := by obtain ⟨-, -, -, -, -, -, h0⟩ := hF; exact h0
  refine r_put hx hF hfin he hl hd rfl rfl (μ1 := si μ c i j v) ?_ (fun c' i' hne => ⟨mi_ne hne, rfl⟩) (fun t ht => ⟨?_, rfl⟩) (by rw [hk]; decide) dd kk
  · simp only [fval, hk, ← ht]
    show Value.ref (kad k 8 (tx (if c = c ∧ i = i ∧ j = j then v else _))) = _
    simp
  · rw [mi_eq]
    exact if_neg ht
/-! arrays -/
def inb (i : Int32) (n : Nat) : Bool := decide (0 ≤ i.toInt ∧ i.toInt < n)
theorem inb_in {i : Int32} {n : Nat} (h : inb i n = true) : vp_in i n := vp_in_iff.mpr (of_decide_eq_true h)
theorem cel_at {k : Kx} {μ : Mm} {H : Heap} {c i : Nat} (hw : wd k μ H) (he : kex k c i) (hc : ¬ c < 20) : va_P (kD k) classes [(kad k c i, .inl (kA k (ak c), (al c, acel k c i (μ.1 c i) (μ.2 c i))))] H := fun q x hq => by
  have h0 : q < 1 := (List.getElem?_eq_some_iff.mp hq).1
  have h1 : q = 0 := by omega
  subst h1
  cases hq
  rw [← cel_arr hc]
  exact hw.1 c i he
theorem ty_at {k : Kx} {n : Nat} (h : n < 7) : (ktys k)[n]? = some (kA k n, kty n) := by
  rcases (show n = 0 ∨ n = 1 ∨ n = 2 ∨ n = 3 ∨ n = 4 ∨ n = 5 ∨ n = 6 by omega) with rfl | rfl | rfl | rfl | rfl | rfl | rfl <;> rfl
theorem r_iald (hx : Ok z k cc nL own ret h T) {c i : Nat} {x : Int32} (hc : ¬ c < 20) (ha : ak c = 0) (he : kex k c i) (hb : inb x (al c) = true) {j : Nat} (hj : x.toNatClampNeg = j) (d : decode cc pc = .ok (.iaload, 1)) (kk : Gq z k nL Q C (pc + 1) μ lv (.int (gi μ c i j) :: st)) : Gq z k nL Q C pc μ lv (.int x :: .ref (kad k c i) :: st) := by
  subst hj
  intro H locs ls hw hS hl
  have hP := cel_at hw he hc
  rw [show acel k c i (μ.1 c i) (μ.2 c i) = .inl (μ.1 c i) by simp [acel, ha], ha] at hP
  exact va_iald hx.1 hx.2.1 hx.2.2.2.2.2.1 hP 0 0 rfl (ty_at (by decide)) (inb_in hb) d (kk H locs ls hw hS hl)
theorem r_bald (hx : Ok z k cc nL own ret h T) {c i : Nat} {x : Int32} (hc : ¬ c < 20) (ha : ak c = 1) (he : kex k c i) (hb : inb x (al c) = true) {j : Nat} (hj : x.toNatClampNeg = j) (d : decode cc pc = .ok (.baload, 1)) (kk : Gq z k nL Q C (pc + 1) μ lv (.int (gi μ c i j) :: st)) : Gq z k nL Q C pc μ lv (.int x :: .ref (kad k c i) :: st) := by
  subst hj
  intro H locs ls hw hS hl
  have hP := cel_at hw he hc
  rw [show acel k c i (μ.1 c i) (μ.2 c i) = .inl (μ.1 c i) by simp [acel, ha], ha] at hP
  exact va_bald hx.1 hx.2.1 hx.2.2.2.2.2.1 hP 0 1 rfl (ty_at (by decide)) (inb_in hb) d (kk H locs ls hw hS hl)
theorem r_zald (hx : Ok z k cc nL own ret h T) {c i : Nat} {x : Int32} (hc : ¬ c < 20) (ha : ak c = 2) (he : kex k c i) (hb : inb x (al c) = true) {j : Nat} (hj : x.toNatClampNeg = j) (d : decode cc pc = .ok (.baload, 1)) (kk : Gq z k nL Q C (pc + 1) μ lv (.int (gi μ c i j) :: st)) : Gq z k nL Q C pc μ lv (.int x :: .ref (kad k c i) :: st) := by
  subst hj
  intro H locs ls hw hS hl
  have hP := cel_at hw he hc
  rw [show acel k c i (μ.1 c i) (μ.2 c i) = .inl (μ.1 c i) by simp [acel, ha], ha] at hP
  exact va_zald hx.1 hx.2.1 hx.2.2.2.2.2.1 hP 0 2 rfl (ty_at (by decide)) (inb_in hb) d (kk H locs ls hw hS hl)
theorem r_lald (hx : Ok z k cc nL own ret h T) {c i : Nat} {x : Int32} (hc : ¬ c < 20) (ha : ak c = 3) (he : kex k c i) (hb : inb x (al c) = true) {j : Nat} (hj : x.toNatClampNeg = j) (d : decode cc pc = .ok (.laload, 1)) (kk : Gq z k nL Q C (pc + 1) μ lv (.long (gj μ c i j) :: st)) : Gq z k nL Q C pc μ lv (.int x :: .ref (kad k c i) :: st) := by
  subst hj
  intro H locs ls hw hS hl
  have hP := cel_at hw he hc
  rw [show acel k c i (μ.1 c i) (μ.2 c i) = .inr (.inl (μ.2 c i)) by simp [acel, ha], ha] at hP
  exact va_lald hx.1 hx.2.1 hx.2.2.2.2.2.1 hP 0 3 rfl (ty_at (by decide)) (inb_in hb) d (kk H locs ls hw hS hl)
theorem r_aald (hx : Ok z k cc nL own ret h T) {c i c' i' : Nat} {x : Int32} (hc : ¬ c < 20) (ha : 4 ≤ ak c) (ha2 : ak c < 7) (he : kex k c i) (hb : inb x (al c) = true) {j : Nat} (hj : x.toNatClampNeg = j) (hr : re c i j = (c', i')) (d : decode cc pc = .ok (.aaload, 1)) (kk : kex k c' i' → Gq z k nL Q C (pc + 1) μ lv (.ref (kad k c' i') :: st)) : Gq z k nL Q C pc μ lv (.int x :: .ref (kad k c i) :: st) := by
  subst hj
  intro H locs ls hw hS hl
  have hP := cel_at hw he hc
  have hin := inb_in hb
  have hlt : x.toNatClampNeg < al c := Nat.not_le.mp fun q => hin (Or.inr q)
  have he' : kex k c' i' := by
    have := hx.2.2.2.2.2.2.2.1.2.2.2.2.1 c i x.toNatClampNeg ha hlt he
    rw [hr] at this
    exact this
  rw [show acel k c i (μ.1 c i) (μ.2 c i) = .inr (.inr (.inr (.inr (fun j => some (kad k (re c i j).1 (re c i j).2))))) by simp [acel, show ¬ ak c < 3 by omega, show ¬ ak c = 3 by omega]] at hP
  have e1 : va_rf ((fun j => some (kad k (re c i j).1 (re c i j).2)) x.toNatClampNeg) = .ref (kad k c' i') := by
    show va_rf (some (kad k (re c i x.toNatClampNeg).1 (re c i x.toNatClampNeg).2)) = _
    rw [hr]
    rfl
  exact W.aald (v := .ref (kad k c' i')) (ty := kty (ak c)) hx.1 hx.2.1 (hP 0 _ rfl) ((hx.2.2.2.2.2.1.2 (ak c) _ (ty_at ha2)).1 (al c) (fun j => va_rf ((fun j => some (kad k (re c i j).1 (re c i j).2)) j))) (by rcases (show ak c = 4 ∨ ak c = 5 ∨ ak c = 6 by omega) with q | q | q <;> rw [q] <;> rfl) (fun q => by cases q) (by show ¬ (x < 0 ∨ (arrV _ _ _).slots.size ≤ _); rw [arrV_size]; exact hin) (by show (arrV _ _ _).slots[_]? = _; rw [arrV_read _ _ hlt, ← e1]) rfl rfl d (kk he' H locs ls hw hS hl)
theorem r_alen (hx : Ok z k cc nL own ret h T) {c i : Nat} {v : Int32} (hc : ¬ c < 20) (ha : ak c < 7) (he : kex k c i) (hv : Int32.ofNat (al c) = v) (d : decode cc pc = .ok (.arraylength, 1)) (kk : Gq z k nL Q C (pc + 1) μ lv (.int v :: st)) : Gq z k nL Q C pc μ lv (.ref (kad k c i) :: st) := by
  intro H locs ls hw hS hl
  exact va_alen hx.1 hx.2.1 hx.2.2.2.2.2.1 (cel_at hw he hc) 0 (ak c) rfl (ty_at ha) hv d (kk H locs ls hw hS hl)
/-- one cell of an array is written -/
theorem wd_arr {H1 : Heap} {c i : Nat} {μ1 : Mm} {H : Heap} {f : (Nat → Int32) ⊕ (Nat → Int64) ⊕ (Nat → UInt32) ⊕ (Nat → UInt64) ⊕ (Nat → Option Nat)} (hk : kok k) (hw : wd k μ H) (he : kex k c i) (hc : ¬ c < 20) (oq : ∀ q : Nat, q ≠ kad k c i → H1[q]? = H[q]?)
    (h1 : H1[kad k c i]? = some (vp_cell (kA k (ak c)) (al c, f))) (hf : acel k c i (μ1.1 c i) (μ1.2 c i) = f) (hμ : ∀ c' i', ¬ (c' = c ∧ i' = i) → μ1.1 c' i' = μ.1 c' i' ∧ μ1.2 c' i' = μ.2 c' i') : wd k μ1 H1 := by
  refine wd_put hk hw he ?_ oq (fun c' i' hne => cel_ne (hμ c' i' hne).1 (hμ c' i' hne).2) ?_
  · rw [cel_arr hc, hf]
    exact h1
  · intro c2 i2 j2 hk2 he2 hg2
    refine hw.2.2 c2 i2 j2 hk2 he2 (fun q => hg2 ?_)
    show μ1.1 c2 i2 j2 = 0
    have q : μ.1 c2 i2 j2 = 0 := q
    rw [(hμ c2 i2 (fun e => hc ?_)).1, q]
    rw [← e.1]
    have : kd c2 j2 = 4 := hk2
    unfold kd at this
    split at this <;> first | omega | (exact absurd this (by decide))
theorem r_iast (hx : Ok z k cc nL own ret h T) {c i : Nat} {x v : Int32} (hc : ¬ c < 20) (ha : ak c = 0) (he : kex k c i) (hb : inb x (al c) = true) {j : Nat} (hj : x.toNatClampNeg = j) (d : decode cc pc = .ok (.iastore, 1)) (kk : Gq z k nL Q C (pc + 1) (si μ c i j v) lv st) : Gq z k nL Q C pc μ lv (.int v :: .int x :: .ref (kad k c i) :: st) := by
  subst hj
  intro H locs ls hw hS hl
  have hP := cel_at hw he hc
  rw [show acel k c i (μ.1 c i) (μ.2 c i) = .inl (μ.1 c i) by simp [acel, ha], ha] at hP
  refine W.iast hx.1 hx.2.1 (hP 0 _ rfl) ((hx.2.2.2.2.2.1.2 0 _ (ty_at (by decide))).1 (al c) (fun j => .int (μ.1 c i j))) (fun q => by cases q) (by show ¬ (x < 0 ∨ (arrV _ _ _).slots.size ≤ _); rw [arrV_size]; exact inb_in hb) rfl rfl d fun H1 e z1 oq => ?_
  refine kk H1 _ ls (wd_arr (f := .inl (upd (μ.1 c i) x.toNatClampNeg v)) hx.2.2.2.2.2.2.2.1 hw he hc oq ?_ (by rw [mi_eq]; simp [acel, ha]) (fun c' i' hne => ⟨mi_ne hne, rfl⟩)) ⟨hS.1.put z1 oq (hx.2.2.2.2.2.2.2.1.2.2.1 c i he), z1.trans hS.2⟩ hl
  rw [e, ha, vp_cell_i, vp_cell_i, arrV_store]
  congr 2
  funext q
  by_cases hq : q = x.toNatClampNeg
  · subst hq
    simp [updV, upd]
  · simp [updV, upd, hq]
theorem r_bast (hx : Ok z k cc nL own ret h T) {c i : Nat} {x v : Int32} (hc : ¬ c < 20) (ha : ak c = 1) (he : kex k c i) (hb : inb x (al c) = true) {j : Nat} (hj : x.toNatClampNeg = j) (d : decode cc pc = .ok (.bastore, 1)) (kk : Gq z k nL Q C (pc + 1) (si μ c i j (vp_nar .byte v)) lv st) : Gq z k nL Q C pc μ lv (.int v :: .int x :: .ref (kad k c i) :: st) := by
  subst hj
  intro H locs ls hw hS hl
  have hP := cel_at hw he hc
  rw [show acel k c i (μ.1 c i) (μ.2 c i) = .inl (μ.1 c i) by simp [acel, ha], ha] at hP
  refine W.bast hx.1 hx.2.1 (hP 0 _ rfl) ((hx.2.2.2.2.2.1.2 1 _ (ty_at (by decide))).1 (al c) (fun j => .int (μ.1 c i j))) (fun q => by cases q) (by show ¬ (x < 0 ∨ (arrV _ _ _).slots.size ≤ _); rw [arrV_size]; exact inb_in hb) rfl rfl d fun H1 e z1 oq => ?_
  refine kk H1 _ ls (wd_arr (f := .inl (upd (μ.1 c i) x.toNatClampNeg (vp_nar .byte v))) hx.2.2.2.2.2.2.2.1 hw he hc oq ?_ (by rw [mi_eq]; simp [acel, ha]) (fun c' i' hne => ⟨mi_ne hne, rfl⟩)) ⟨hS.1.put z1 oq (hx.2.2.2.2.2.2.2.1.2.2.1 c i he), z1.trans hS.2⟩ hl
  rw [e, ha, vp_cell_i, vp_cell_i, arrV_store]
  congr 2
  funext q
  by_cases hq : q = x.toNatClampNeg
  · subst hq
    simp [updV, upd, vp_nar]
    try rfl
  · simp [updV, upd, hq]
theorem r_zast (hx : Ok z k cc nL own ret h T) {c i : Nat} {x v : Int32} (hc : ¬ c < 20) (ha : ak c = 2) (he : kex k c i) (hb : inb x (al c) = true) {j : Nat} (hj : x.toNatClampNeg = j) (d : decode cc pc = .ok (.bastore, 1)) (kk : Gq z k nL Q C (pc + 1) (si μ c i j (vp_nar .boolean v)) lv st) : Gq z k nL Q C pc μ lv (.int v :: .int x :: .ref (kad k c i) :: st) := by
  subst hj
  intro H locs ls hw hS hl
  have hP := cel_at hw he hc
  rw [show acel k c i (μ.1 c i) (μ.2 c i) = .inl (μ.1 c i) by simp [acel, ha], ha] at hP
  refine W.zast hx.1 hx.2.1 (hP 0 _ rfl) ((hx.2.2.2.2.2.1.2 2 _ (ty_at (by decide))).1 (al c) (fun j => .int (μ.1 c i j))) (fun q => by cases q) (by show ¬ (x < 0 ∨ (arrV _ _ _).slots.size ≤ _); rw [arrV_size]; exact inb_in hb) rfl rfl d fun H1 e z1 oq => ?_
  refine kk H1 _ ls (wd_arr (f := .inl (upd (μ.1 c i) x.toNatClampNeg (vp_nar .boolean v))) hx.2.2.2.2.2.2.2.1 hw he hc oq ?_ (by rw [mi_eq]; simp [acel, ha]) (fun c' i' hne => ⟨mi_ne hne, rfl⟩)) ⟨hS.1.put z1 oq (hx.2.2.2.2.2.2.2.1.2.2.1 c i he), z1.trans hS.2⟩ hl
  rw [e, ha, vp_cell_i, vp_cell_i, arrV_store]
  congr 2
  funext q
  by_cases hq : q = x.toNatClampNeg
  · subst hq
    simp [updV, upd, vp_nar]
    try rfl
  · simp [updV, upd, hq]
theorem r_last (hx : Ok z k cc nL own ret h T) {c i : Nat} {x : Int32} {v : Int64} (hc : ¬ c < 20) (ha : ak c = 3) (he : kex k c i) (hb : inb x (al c) = true) {j : Nat} (hj : x.toNatClampNeg = j) (d : decode cc pc = .ok (.lastore, 1)) (kk : Gq z k nL Q C (pc + 1) (sj μ c i j v) lv st) : Gq z k nL Q C pc μ lv (.long v :: .int x :: .ref (kad k c i) :: st) := by
  subst hj
  intro H locs ls hw hS hl
  have hP := cel_at hw he hc
  rw [show acel k c i (μ.1 c i) (μ.2 c i) = .inr (.inl (μ.2 c i)) by simp [acel, ha], ha] at hP
  refine W.last hx.1 hx.2.1 (hP 0 _ rfl) ((hx.2.2.2.2.2.1.2 3 _ (ty_at (by decide))).1 (al c) (fun j => .long (μ.2 c i j))) (fun q => by cases q) (by show ¬ (x < 0 ∨ (arrV _ _ _).slots.size ≤ _); rw [arrV_size]; exact inb_in hb) rfl rfl d fun H1 e z1 oq => ?_
  refine kk H1 _ ls (wd_arr (f := .inr (.inl (vp_updL (μ.2 c i) x.toNatClampNeg v))) hx.2.2.2.2.2.2.2.1 hw he hc oq ?_ (by rw [mj_eq]; simp [acel, ha]) (fun c' i' hne => ⟨rfl, mj_ne hne⟩)) ⟨hS.1.put z1 oq (hx.2.2.2.2.2.2.2.1.2.2.1 c i he), z1.trans hS.2⟩ hl
  rw [e, ha, vp_cell_l, vp_cell_l, arrV_store]
  congr 2
  funext q
  by_cases hq : q = x.toNatClampNeg
  · subst hq
    simp [updV, vp_updL]
  · simp [updV, vp_updL, hq]
/-! ends -/
theorem r_iret (hx : Ok z k cc nL own (some .int) h T) {v r : Int32} (hf : some (v, μ) = some (r, μ')) (d : decode cc pc = .ok (.ireturn, 1)) : Gw z k nL (k, T, some .int, some (.int r), μ') T pc μ lv [.int v] := by
  injection hf with hf
  injection hf with e1 e2
  subst e1; subst e2
  intro H locs ls hw hS hl
  exact W.iret hx.1 hx.2.1 hx.2.2.2.2.2.2.2.2.2.1 (fun t ht hW => ⟨⟨rfl, ⟨(fun q => by cases q), (fun q => by cases q)⟩, by rw [ht]; exact hw, by rw [ht]; exact hS.2⟩, hS.1.F ht⟩) hS.1.2.2 d hx.2.2.2.2.2.2.2.2.1
theorem r_zret (hx : Ok z k cc nL own (some .boolean) h T) {v r : Int32} (hf : some (v, μ) = some (r, μ')) (hn : narrow .boolean (.int v) = .int v) (d : decode cc pc = .ok (.ireturn, 1)) : Gw z k nL (k, T, some .boolean, some (.int r), μ') T pc μ lv [.int v] := by
  injection hf with hf
  injection hf with e1 e2
  subst e1; subst e2
  intro H locs ls hw hS hl
  exact W.zret hx.1 hx.2.1 hx.2.2.2.2.2.2.2.2.2.1 hn (fun t ht hW => ⟨⟨rfl, ⟨(fun _ x hxv => by cases hxv; exact hn), (fun q => by cases q)⟩, by rw [ht]; exact hw, by rw [ht]; exact hS.2⟩, hS.1.F ht⟩) hS.1.2.2 d hx.2.2.2.2.2.2.2.2.1
theorem r_lret (hx : Ok z k cc nL own (some .long) h T) {v r : Int64} (hf : some (v, μ) = some (r, μ')) (d : decode cc pc = .ok (.lreturn, 1)) : Gw z k nL (k, T, some .long, some (.long r), μ') T pc μ lv [.long v] := by
  injection hf with hf
  injection hf with e1 e2
  subst e1; subst e2
  intro H locs ls hw hS hl
  exact W.lret hx.1 hx.2.1 hx.2.2.2.2.2.2.2.2.2.1 (fun t ht hW => ⟨⟨rfl, ⟨(fun q => by cases q), (fun q => by cases q)⟩, by rw [ht]; exact hw, by rw [ht]; exact hS.2⟩, hS.1.F ht⟩) hS.1.2.2 d hx.2.2.2.2.2.2.2.2.1
theorem r_vret (hx : Ok z k cc nL own none h T) (hf : some μ = some μ') (d : decode cc pc = .ok (.return_, 1)) : Gw z k nL (k, T, none, none, μ') T pc μ lv [] := by
  injection hf with e1
  subst e1
  intro H locs ls hw hS hl
  exact W.vret hx.1 hx.2.1 hx.2.2.2.2.2.2.2.2.2.1 (fun t ht hW => ⟨⟨rfl, ⟨(fun q => by cases q), (fun q => by cases q)⟩, by rw [ht]; exact hw, by rw [ht]; exact hS.2⟩, hS.1.F ht⟩) hS.1.2.2 d hx.2.2.2.2.2.2.2.2.1
def rp (k : Kx) (c : Nat) (o : Option Nat) : Value := match o with
  | none => .null
  | some i => .ref (kad k c i)
theorem r_aret {Cn : String} (hx : Ok z k cc nL own (some (.object Cn)) h T) {c : Nat} {o r : Option Nat} {v : Value} (hv : v = rp k c o) (hf : some (o, μ) = some (r, μ')) (d : decode cc pc = .ok (.areturn, 1)) : Gw z k nL (k, T, some (.object Cn), some (rp k c r), μ') T pc μ lv [v] := by
  injection hf with hf
  injection hf with e1 e2
  subst e1; subst e2; subst hv
  intro H locs ls hw hS hl
  exact W.aret hx.1 hx.2.1 hx.2.2.2.2.2.2.2.2.2.1 (Or.inl ⟨_, rfl⟩) (by cases o with
    | none => exact Or.inl rfl
    | some i => exact Or.inr ⟨_, rfl⟩) (fun t ht hW => ⟨⟨rfl, ⟨(fun q => by cases q), (fun q => by cases q)⟩, by rw [ht]; exact hw, by rw [ht]; exact hS.2⟩, hS.1.F ht⟩) hS.1.2.2 d hx.2.2.2.2.2.2.2.2.1
/-! calls -/
def MK (y : MethodName) (b : ByteArray) (nL : Nat) (ret : Option FieldType) (n : Nat) : Prop :=
  Cond.initialized y.cls ∈ lw_g ∧ Cond.code y b nL ret ∈ lw_g ∧ (y.cls ≠ "java/lang/invoke/MethodHandle" ∧ y.cls ≠ "java/lang/invoke/VarHandle" ∧ (parseMethodDescriptor y.desc).map (fun d => d.parameters.length) = some n) ∧ nL ≤ 10
theorem pre_blind {k : Kx} {μ : Mm} {av : List Value} : FrameBlind (va_Pc av (pre k μ)) := fun a U g mk q => by
  obtain ⟨q0, q1, q2, q3⟩ := q
  exact ⟨q0, q1, va_K.moved (u := U) (U := U.calling g mk a) (Vm.Alike.refl U.vm) q2, rs_same (u := U) (U := U.calling g mk a) rfl q3⟩
theorem pre_at (hx : Ok z k cc nL own ret h T) {H : Heap} {locs : List Loc} {av : List Value} (hw : wd k μ H) (hS : va_S (kF k) (zs z).heap H locs) : ∀ U : State, U.heap = H → (zs z).WarmedH U.vm → va_Pc av (pre k μ) av.toArray U := fun U hU hW =>
  ⟨rfl, by rw [hU]; exact hw, va_K.moved hW.alike hx.2.2.2.2.2.1, by rw [hU]; exact rs_warm hW (rs_kept hx.2.2.2.2.2.2.1 hS.2.1)⟩
theorem call_b (hx : Ok z k cc nL own ret h T) {y : MethodName} {b : ByteArray} {nL1 n idx h1 : Nat} {ret1 : Option FieldType} (hK : MK y b nL1 ret1 n) (hl : Cond.methodLink own idx y ∈ lw_g) (hh : h1 < h) : CallB (zR z) (zs z) (za z) own idx y b nL1 ret1 (.code y b nL1 ret1 :: lw_g) (rmh h1 (0, 0)) 0 0 n := by
  obtain ⟨g1, g2, ⟨g3, g4, g5⟩, g6⟩ := hK
  have hts := hx.2.2.2.2.1
  have hR := hx.2.2.2.2.2.2.2.2.2.2
  refine ⟨rfl, rfl, by rw [hR]; show h1 + 1 ≤ h; omega, by rw [hR]; show 8 + (nL1 + 11) + 30 * h1 ≤ 30 * h; omega, pay_in hts (fun w hw => ?_), List.mem_cons_self, hts _ g2, hts _ g1, ⟨g3, g4⟩, fun sig hs => ?_, hts _ hl⟩
  · rcases List.mem_cons.mp hw with rfl | q
    · exact lw_gg _ g2
    · exact lw_gg _ q
  · rw [hs] at g5
    exact (Option.some.inj g5).symm
theorem gw_call {st0 rest : List Value} {ret1 : Option FieldType} {rv1 : Option Value} {μ1 : Mm} {a : Array Value}
    (hr : ∀ (H : Heap) (locs : List Loc) (ls : Array Slot), wd k μ H → Sz z k C H locs → lv_has ls nL lv → va_Run (zp z) (zl z) (ze z) (zR z) (zs z) (zm z) (za z) (zb z) (zme z) (zc z) H locs C.1 C.2 0 0 (F0 (zm z) pc ls st0) rest (qq (k, (0, 0), ret1, rv1, μ1) a) (kF k))
    (kk : bok ret1 rv1 → Gq z k nL Q C (pc + 3) μ1 lv (rv1.toList ++ rest)) : Gq z k nL Q C pc μ lv st0 := by
  intro H locs ls hw hS hl TT hT X
  obtain ⟨v, st₀, t, T', L, h0, X', hL, e1, e2, ⟨⟨hv, hb, hw1, hsz⟩, hz, hk⟩, st⟩ := hr H locs ls hw hS hl TT hT X
  cases hv
  rw [h0] at hz hk hsz
  obtain ⟨t2, a1, b1⟩ := kk hb T'.heap (locs ++ L) ls (by rw [e1]; exact hw1) ⟨⟨Nat.le_trans hS.1.1 (by rw [e1]; exact hz), fun q h1 h2 => by rw [e1, hk q (Nat.lt_of_lt_of_le h1 hS.1.1) h2]; exact hS.1.2.1 q h1 h2, fun q hq => by
      rcases List.mem_append.mp hq with h | h
      · exact hS.1.2.2 q h
      · exact hL q h⟩, by rw [e1]; exact (show t.heap.size = H.size from hsz).trans hS.2⟩ hl T' rfl X'
  exact ⟨t2, st t2 a1, b1⟩
theorem r_callV (hx : Ok z k cc nL own ret h T) {st0 st1 rest As : List Value} {y : MethodName} {b : ByteArray} {nL1 n idx h1 c i N : Nat} {TT : u_T} {ret1 : Option FieldType} {rv1 : Option Value} {μ1 : Mm} (hK : MK y b nL1 ret1 n) (hc : classes[c]? = some (y.cls, TT, N)) (hi : Cond.instanceMethod y ∈ lw_g) (hs : Cond.selects y.cls y y ∈ lw_g) (hl : Cond.methodLink own idx y ∈ lw_g)
    (hCT : C.1 ≤ T.1 ∧ C.2 ≤ T.2) (hM : MM (zl z) k h1 y b nL1 ret1 (.ref (kad k c i) :: As) μ rv1 μ1) (he : kex k c i) (hh : h1 < h) (hn : As.length = n) (h0 : st0 = As.reverse ++ .ref (kad k c i) :: rest) (hst : (rest.map fun v => v.category).sum ≤ 8) (h2 : rv1.toList ++ rest = st1) (d : decode cc pc = .ok (.invokevirtual idx, 3))
    (kk : bok ret1 rv1 → Gq z k nL Q C (pc + 3) μ1 lv st1) : Gq z k nL Q C pc μ lv st0 := by
  subst h0; subst h2
  have hR2 : C.1 + 0 ≤ (zR z).cells ∧ C.2 + 0 ≤ (zR z).slots := by rw [hx.2.2.2.2.2.2.2.2.2.2]; exact hCT
  refine gw_call (a := (Value.ref (kad k c i) :: As).toArray) (fun H locs ls hw hS hl' => ?_) kk
  have hc20 : c < 20 := by
    rcases Nat.lt_or_ge c 13 with q | q
    · omega
    · exact absurd hc (by rw [List.getElem?_eq_none (by exact q)]; exact fun h => by cases h)
  have hP := hw.1 c i he
  rw [cel_obj hc20] at hP
  obtain ⟨q', g1, cell, g2, g3, g4, -⟩ := hP
  exact va_runV (As := As) (rest := rest) ⟨hx.1, hx.2.1, hx.2.2.1, hx.2.2.2.1, hx.2.2.2.2.1⟩ hM ⟨call_b hx hK hl hh, hx.2.2.2.2.1 _ hi, hx.2.2.2.2.1 _ hs⟩
    ⟨pre_blind, ⟨cell, g2, by rw [g4]; rfl, by rw [g3]; exact (hx.2.2.2.2.2.1.1 c _ hc).2.1⟩, pre_at hx hw hS.1⟩ rfl hn hl'.1 rfl (lv_room hst) d hR2
theorem r_callS (hx : Ok z k cc nL own ret h T) {st0 st1 rest As : List Value} {y : MethodName} {b : ByteArray} {nL1 n idx h1 : Nat} {ret1 : Option FieldType} {rv1 : Option Value} {μ1 : Mm} (hK : MK y b nL1 ret1 n) (hs : Cond.static y ∈ lw_g) (hl : Cond.methodLink own idx y ∈ lw_g)
    (hCT : C.1 ≤ T.1 ∧ C.2 ≤ T.2) (hM : MM (zl z) k h1 y b nL1 ret1 As μ rv1 μ1) (hh : h1 < h) (hn : As.length = n) (h0 : st0 = As.reverse ++ rest) (hst : (rest.map fun v => v.category).sum ≤ 8) (h2 : rv1.toList ++ rest = st1) (d : decode cc pc = .ok (.invokestatic idx, 3))
    (kk : bok ret1 rv1 → Gq z k nL Q C (pc + 3) μ1 lv st1) : Gq z k nL Q C pc μ lv st0 := by
  subst h0; subst h2
  have hR2 : C.1 + 0 ≤ (zR z).cells ∧ C.2 + 0 ≤ (zR z).slots := by rw [hx.2.2.2.2.2.2.2.2.2.2]; exact hCT
  refine gw_call (a := As.toArray) (fun H locs ls hw hS hl' => ?_) kk
  exact va_runS (As := As) (rest := rest) ⟨hx.1, hx.2.1, hx.2.2.1, hx.2.2.2.1, hx.2.2.2.2.1⟩ hM ⟨call_b hx hK hl hh, hx.2.2.2.2.1 _ hs⟩ ⟨pre_blind, pre_at hx hw hS.1⟩ rfl hn hl'.1 rfl (lv_room hst) d hR2
def MKm : Prop := Cond.initialized "java/lang/Math" ∈ lw_g
theorem r_mmax (hx : Ok z k cc nL own ret h T) {idx : Nat} {x y : Int32} (h1 : Cond.methodLink own idx Lib.Math.max.name ∈ lw_g) (h2 : Cond.static Lib.Math.max.name ∈ lw_g) (h3 : Cond.initialized "java/lang/Math" ∈ lw_g) (h4 : Cond.code Lib.Math.max.name Lib.Math.max.code 2 (some .int) ∈ lw_g) (hCT : C.1 ≤ T.1 ∧ C.2 ≤ T.2) (hh : 0 < h) (hst : (st.map fun v => v.category).sum ≤ 8) (d : decode cc pc = .ok (.invokestatic idx, 3))
    (kk : Gq z k nL Q C (pc + 3) μ lv (.int (mx x y) :: st)) : Gq z k nL Q C pc μ lv (.int y :: .int x :: st) :=
  fun H locs ls hw hS hl => va_mmax hx.1 hx.2.1 (hx.2.2.1.trans hl.1.symm) hx.2.2.2.1 (hx.2.2.2.2.1 _ h1) (hx.2.2.2.2.1 _ h2) (hx.2.2.2.2.1 _ h3) (hx.2.2.2.2.1 _ h4) (by rw [hx.2.2.2.2.2.2.2.2.2.2]; exact hh) (by rw [hx.2.2.2.2.2.2.2.2.2.2]; show _ + 13 ≤ 30 * h; omega) (by rw [hx.2.2.2.2.2.2.2.2.2.2]; exact hCT.1) (by rw [hx.2.2.2.2.2.2.2.2.2.2]; exact hCT.2) d (kk H locs ls hw hS hl)
theorem r_mmin (hx : Ok z k cc nL own ret h T) {idx : Nat} {x y : Int32} (h1 : Cond.methodLink own idx Lib.Math.min.name ∈ lw_g) (h2 : Cond.static Lib.Math.min.name ∈ lw_g) (h3 : Cond.initialized "java/lang/Math" ∈ lw_g) (h4 : Cond.code Lib.Math.min.name Lib.Math.min.code 2 (some .int) ∈ lw_g) (hCT : C.1 ≤ T.1 ∧ C.2 ≤ T.2) (hh : 0 < h) (hst : (st.map fun v => v.category).sum ≤ 8) (d : decode cc pc = .ok (.invokestatic idx, 3))
    (kk : Gq z k nL Q C (pc + 3) μ lv (.int (mn x y) :: st)) : Gq z k nL Q C pc μ lv (.int y :: .int x :: st) :=
  fun H locs ls hw hS hl => va_mmin hx.1 hx.2.1 (hx.2.2.1.trans hl.1.symm) hx.2.2.2.1 (hx.2.2.2.2.1 _ h1) (hx.2.2.2.2.1 _ h2) (hx.2.2.2.2.1 _ h3) (hx.2.2.2.2.1 _ h4) (by rw [hx.2.2.2.2.2.2.2.2.2.2]; exact hh) (by rw [hx.2.2.2.2.2.2.2.2.2.2]; show _ + 13 ≤ 30 * h; omega) (by rw [hx.2.2.2.2.2.2.2.2.2.2]; exact hCT.1) (by rw [hx.2.2.2.2.2.2.2.2.2.2]; exact hCT.2) d (kk H locs ls hw hS hl)
theorem r_mabs (hx : Ok z k cc nL own ret h T) {idx : Nat} {x : Int32} (h1 : Cond.methodLink own idx Lib.Math.abs.name ∈ lw_g) (h2 : Cond.static Lib.Math.abs.name ∈ lw_g) (h3 : Cond.initialized "java/lang/Math" ∈ lw_g) (h4 : Cond.code Lib.Math.abs.name Lib.Math.abs.code 1 (some .int) ∈ lw_g) (hCT : C.1 ≤ T.1 ∧ C.2 ≤ T.2) (hh : 0 < h) (hst : (st.map fun v => v.category).sum ≤ 8) (d : decode cc pc = .ok (.invokestatic idx, 3))
    (kk : Gq z k nL Q C (pc + 3) μ lv (.int (ab x) :: st)) : Gq z k nL Q C pc μ lv (.int x :: st) :=
  fun H locs ls hw hS hl => va_mabs hx.1 hx.2.1 (hx.2.2.1.trans hl.1.symm) hx.2.2.2.1 (hx.2.2.2.2.1 _ h1) (hx.2.2.2.2.1 _ h2) (hx.2.2.2.2.1 _ h3) (hx.2.2.2.2.1 _ h4) (by rw [hx.2.2.2.2.2.2.2.2.2.2]; exact hh) (by rw [hx.2.2.2.2.2.2.2.2.2.2]; show _ + 13 ≤ 30 * h; omega) (by rw [hx.2.2.2.2.2.2.2.2.2.2]; exact hCT.1) (by rw [hx.2.2.2.2.2.2.2.2.2.2]; exact hCT.2) d (kk H locs ls hw hS hl)
/-- the static array of what LAWS may come to -/
theorem r_gets (hx : Ok z k cc nL own ret h T) {idx : Nat} (hl : Cond.fieldLink own idx "RopeDance$Text" "MOST_WORTH" "[I" ∈ lw_g) (d : decode cc pc = .ok (.getstatic idx, 3)) (kk : Gq z k nL Q C (pc + 3) μ lv (.ref (kT k) :: st)) : Gq z k nL Q C pc μ lv st :=
  fun H locs ls hw hS hl' => va_gets hx.1 hx.2.1 hx.2.2.2.2.2.2.1.1 hS.1 hx.2.2.2.1 (hx.2.2.2.2.1 _ hl) (fun _ h9 => h9) d (kk H locs ls hw hS hl')
theorem r_tlen (hx : Ok z k cc nL own ret h T) (d : decode cc pc = .ok (.arraylength, 1)) (kk : Gq z k nL Q C (pc + 1) μ lv (.int 4 :: st)) : Gq z k nL Q C pc μ lv (.ref (kT k) :: st) :=
  fun H locs ls hw hS hl' => va_tlen hx.1 hx.2.1 hx.2.2.2.2.2.2.1.2.1 hS.1 rfl d (kk H locs ls hw hS hl')
theorem r_tald (hx : Ok z k cc nL own ret h T) {x : Int32} (hb : inb x 4 = true) {j : Nat} (hj : x.toNatClampNeg = j) (d : decode cc pc = .ok (.iaload, 1)) (kk : Gq z k nL Q C (pc + 1) μ lv (.int (mostW.getD j 0) :: st)) : Gq z k nL Q C pc μ lv (.int x :: .ref (kT k) :: st) :=
  by subst hj; exact fun H locs ls hw hS hl' => va_ti hx.1 hx.2.1 hx.2.2.2.2.2.2.1.2.1 hS.1 (inb_in hb) rfl d (kk H locs ls hw hS hl')
theorem r_aretR {Cn : String} (hx : Ok z k cc nL own (some (.object Cn)) h T) {c i : Nat} (hf : some μ = some μ') (d : decode cc pc = .ok (.areturn, 1)) : Gw z k nL (k, T, some (.object Cn), some (.ref (kad k c i)), μ') T pc μ lv [.ref (kad k c i)] := by
  injection hf with e1
  subst e1
  intro H locs ls hw hS hl
  exact W.aret hx.1 hx.2.1 hx.2.2.2.2.2.2.2.2.2.1 (Or.inl ⟨_, rfl⟩) (Or.inr ⟨_, rfl⟩) (fun t ht hW => ⟨⟨rfl, ⟨(fun q => by cases q), (fun q => by cases q)⟩, by rw [ht]; exact hw, by rw [ht]; exact hS.2⟩, hS.1.F ht⟩) hS.1.2.2 d hx.2.2.2.2.2.2.2.2.1
theorem r_cret (hx : Ok z k cc nL own (some .char) h T) {v r : Int32} (hf : some (v, μ) = some (r, μ')) (hn : narrow .char (.int v) = .int v) (d : decode cc pc = .ok (.ireturn, 1)) : Gw z k nL (k, T, some .char, some (.int r), μ') T pc μ lv [.int v] := by
  injection hf with hf
  injection hf with e1 e2
  subst e1; subst e2
  intro H locs ls hw hS hl
  exact W.zret hx.1 hx.2.1 hx.2.2.2.2.2.2.2.2.2.1 hn (fun t ht hW => ⟨⟨rfl, ⟨(fun q => by cases q), (fun _ x hxv => by cases hxv; exact hn)⟩, by rw [ht]; exact hw, by rw [ht]; exact hS.2⟩, hS.1.F ht⟩) hS.1.2.2 d hx.2.2.2.2.2.2.2.2.1
theorem r_bret (hx : Ok z k cc nL own (some .byte) h T) {v r : Int32} (hf : some (v, μ) = some (r, μ')) (hn : narrow .byte (.int v) = .int v) (d : decode cc pc = .ok (.ireturn, 1)) : Gw z k nL (k, T, some .byte, some (.int r), μ') T pc μ lv [.int v] := by
  injection hf with hf
  injection hf with e1 e2
  subst e1; subst e2
  intro H locs ls hw hS hl
  exact W.zret hx.1 hx.2.1 hx.2.2.2.2.2.2.2.2.2.1 hn (fun t ht hW => ⟨⟨rfl, ⟨(fun q => by cases q), (fun q => by cases q)⟩, by rw [ht]; exact hw, by rw [ht]; exact hS.2⟩, hS.1.F ht⟩) hS.1.2.2 d hx.2.2.2.2.2.2.2.2.1
def i2c (x : Int32) : Int32 := (x.toUInt32 % 65536).toInt32
theorem i2c_nar (x : Int32) : narrow .char (.int (i2c x)) = .int (i2c x) := pk_nc x
theorem r_i2c (hx : Ok z k cc nL own ret h T) {x : Int32} (d : decode cc pc = .ok (.i2c, 1)) (kk : Gq z k nL Q C (pc + 1) μ lv (.int (i2c x) :: st)) : Gq z k nL Q C pc μ lv (.int x :: st) :=
  fun H locs ls hw hS hl => lv_i2c hx.1 hx.2.1 d rfl (kk H locs ls hw hS hl)
theorem txI (hk : kok k) {t : Nat} (e : kex k 8 t) : tx (nI t) = t := by
  have h2 := hk.2.2.2.2.2.2 t e
  rcases (show t = 0 ∨ t = 1 by omega) with rfl | rfl <;> decide
/-! the text constants, and what the JDK's own methods read -/
theorem r_ldcs0 (hx : Ok z k cc nL "RopeDance$Tape" ret h T) (d : decode cc pc = .ok (.ldc 96, 2)) (kk : Gq z k nL Q C (pc + 2) μ lv (.ref (kSa k 0) :: st)) : Gq z k nL Q C pc μ lv st :=
  fun H locs ls hw hS hl => va_ldcS hx.1 hx.2.1 hx.2.2.2.1 hx.2.2.2.2.2.2.1.2.2.2.2.2.1 d (kk H locs ls hw hS hl)
theorem r_ldcs1 (hx : Ok z k cc nL "RopeDance$Tape" ret h T) (d : decode cc pc = .ok (.ldc 81, 2)) (kk : Gq z k nL Q C (pc + 2) μ lv (.ref (kSa k 1) :: st)) : Gq z k nL Q C pc μ lv st :=
  fun H locs ls hw hS hl => va_ldcS hx.1 hx.2.1 hx.2.2.2.1 hx.2.2.2.2.2.2.1.2.2.2.2.2.2.1 d (kk H locs ls hw hS hl)
theorem r_sval (hx : Ok z k cc nL own ret h T) {w idx : Nat} (hw2 : w < 2) (hl : Cond.fieldLink own idx "java/lang/String" "value" "[B" ∈ lw_g) (d : decode cc pc = .ok (.getfield idx, 3)) (kk : Gq z k nL Q C (pc + 3) μ lv (.ref (kSv k w) :: st)) : Gq z k nL Q C pc μ lv (.ref (kSa k w) :: st) :=
  fun H locs ls hw hS hl' => vk_getf hx.1 hx.2.1 (hx.2.2.2.2.2.2.1.2.2.1.1 w hw2).2.2.1 hS.1 hx.2.2.2.1 (hx.2.2.2.2.1 _ hl) (fun _ h9 => h9) d (kk H locs ls hw hS hl')
theorem r_scod (hx : Ok z k cc nL own ret h T) {w idx : Nat} (hw2 : w < 2) (hl : Cond.fieldLink own idx "java/lang/String" "coder" "B" ∈ lw_g) (d : decode cc pc = .ok (.getfield idx, 3)) (kk : Gq z k nL Q C (pc + 3) μ lv (.int 0 :: st)) : Gq z k nL Q C pc μ lv (.ref (kSa k w) :: st) :=
  fun H locs ls hw hS hl' => vk_getf hx.1 hx.2.1 (hx.2.2.2.2.2.2.1.2.2.1.1 w hw2).2.1 hS.1 hx.2.2.2.1 (hx.2.2.2.2.1 _ hl) (fun _ h9 => h9) d (kk H locs ls hw hS hl')
theorem r_gcs (hx : Ok z k cc nL own ret h T) {idx : Nat} (hl : Cond.fieldLink own idx "java/lang/String" "COMPACT_STRINGS" "Z" ∈ lw_g) (d : decode cc pc = .ok (.getstatic idx, 3)) (kk : Gq z k nL Q C (pc + 3) μ lv (.int 1 :: st)) : Gq z k nL Q C pc μ lv st :=
  fun H locs ls hw hS hl' => va_gets hx.1 hx.2.1 hx.2.2.2.2.2.2.1.2.2.2.1 hS.1 hx.2.2.2.1 (hx.2.2.2.2.1 _ hl) (fun _ h9 => h9) d (kk H locs ls hw hS hl')
theorem r_gsq (hx : Ok z k cc nL own ret h T) {idx : Nat} (hl : Cond.fieldLink own idx "jdk/internal/util/Preconditions" "SIOOBE_FORMATTER" "Ljava/util/function/BiFunction;" ∈ lw_g) (d : decode cc pc = .ok (.getstatic idx, 3)) (kk : Gq z k nL Q C (pc + 3) μ lv (va_rf (kQ k) :: st)) : Gq z k nL Q C pc μ lv st :=
  fun H locs ls hw hS hl' => va_gets hx.1 hx.2.1 hx.2.2.2.2.2.2.1.2.2.2.2.1 hS.1 hx.2.2.2.1 (hx.2.2.2.2.1 _ hl) (fun _ h9 => h9) d (kk H locs ls hw hS hl')
theorem r_svlen (hx : Ok z k cc nL own ret h T) {w : Nat} {v : Int32} (hw2 : w < 2) (hv : Int32.ofNat (lenS.getD w 0) = v) (d : decode cc pc = .ok (.arraylength, 1)) (kk : Gq z k nL Q C (pc + 1) μ lv (.int v :: st)) : Gq z k nL Q C pc μ lv (.ref (kSv k w) :: st) :=
  fun H locs ls hw hS hl' => va_tlen hx.1 hx.2.1 (hx.2.2.2.2.2.2.1.2.2.1.1 w hw2).2.2.2 hS.1 hv d (kk H locs ls hw hS hl')
theorem r_svald (hx : Ok z k cc nL own ret h T) {w n : Nat} {x : Int32} (hw2 : w < 2) (hn : lenS.getD w 0 = n) (hb : inb x n = true) {j : Nat} (hj : x.toNatClampNeg = j) (d : decode cc pc = .ok (.baload, 1)) (kk : Gq z k nL Q C (pc + 1) μ lv (.int ((bytS.getD w []).getD j 0) :: st)) : Gq z k nL Q C pc μ lv (.int x :: .ref (kSv k w) :: st) :=
  by subst hj; exact fun H locs ls hw hS hl' => va_tb hx.1 hx.2.1 (hx.2.2.2.2.2.2.1.2.2.1.1 w hw2).2.2.2 hS.1 (inb_in (by rw [hn]; exact hb)) rfl d (kk H locs ls hw hS hl')
theorem r_callVS (hx : Ok z k cc nL own ret h T) {st0 st1 rest As : List Value} {y : MethodName} {b : ByteArray} {nL1 n idx h1 w : Nat} {ret1 : Option FieldType} {rv1 : Option Value} {μ1 : Mm} (hK : MK y b nL1 ret1 n) (hc : y.cls = "java/lang/String") (hi : Cond.instanceMethod y ∈ lw_g) (hs : Cond.selects y.cls y y ∈ lw_g) (hl : Cond.methodLink own idx y ∈ lw_g)
    (hCT : C.1 ≤ T.1 ∧ C.2 ≤ T.2) (hM : MM (zl z) k h1 y b nL1 ret1 (.ref (kSa k w) :: As) μ rv1 μ1) (he : w < 2) (hh : h1 < h) (hn : As.length = n) (h0 : st0 = As.reverse ++ .ref (kSa k w) :: rest) (hst : (rest.map fun v => v.category).sum ≤ 8) (h2 : rv1.toList ++ rest = st1) (d : decode cc pc = .ok (.invokevirtual idx, 3))
    (kk : bok ret1 rv1 → Gq z k nL Q C (pc + 3) μ1 lv st1) : Gq z k nL Q C pc μ lv st0 := by
  subst h0; subst h2
  have hR2 : C.1 + 0 ≤ (zR z).cells ∧ C.2 + 0 ≤ (zR z).slots := by rw [hx.2.2.2.2.2.2.2.2.2.2]; exact hCT
  refine gw_call (a := (Value.ref (kSa k w) :: As).toArray) (fun H locs ls hw hS hl' => ?_) kk
  obtain ⟨cell, g1, g2, g3⟩ := vk_recv hx.2.2.2.2.2.2.1.2.2.1 he hS.1
  exact va_runV (As := As) (rest := rest) ⟨hx.1, hx.2.1, hx.2.2.1, hx.2.2.2.1, hx.2.2.2.2.1⟩ hM ⟨call_b hx hK hl hh, hx.2.2.2.2.1 _ hi, hx.2.2.2.2.1 _ hs⟩
    ⟨pre_blind, ⟨cell, g1, g2, by rw [hc]; exact g3⟩, pre_at hx hw hS.1⟩ rfl hn hl'.1 rfl (lv_room hst) d hR2
/-- the one private method of a nest mate -/
theorem r_callSN (hx : Ok z k cc nL "RopeDance$Table" ret h T) {st0 st1 rest As : List Value} {b : ByteArray} {nL1 n h1 : Nat} {ret1 : Option FieldType} {rv1 : Option Value} {μ1 : Mm} (hK : MK ⟨"RopeDance", "greatest", "(II)I"⟩ b nL1 ret1 n) (hs : Cond.static ⟨"RopeDance", "greatest", "(II)I"⟩ ∈ lw_g)
    (hCT : C.1 ≤ T.1 ∧ C.2 ≤ T.2) (hM : MM (zl z) k h1 ⟨"RopeDance", "greatest", "(II)I"⟩ b nL1 ret1 As μ rv1 μ1) (hh : h1 < h) (hn : As.length = n) (h0 : st0 = As.reverse ++ rest) (hst : (rest.map fun v => v.category).sum ≤ 8) (h2 : rv1.toList ++ rest = st1) (d : decode cc pc = .ok (.invokestatic 56, 3))
    (kk : bok ret1 rv1 → Gq z k nL Q C (pc + 3) μ1 lv st1) : Gq z k nL Q C pc μ lv st0 := by
  subst h0; subst h2
  have hR2 : C.1 + 0 ≤ (zR z).cells ∧ C.2 + 0 ≤ (zR z).slots := by rw [hx.2.2.2.2.2.2.2.2.2.2]; exact hCT
  obtain ⟨g1, g2, ⟨g3, g4, g5⟩, g6⟩ := hK
  have hts := hx.2.2.2.2.1
  have hR := hx.2.2.2.2.2.2.2.2.2.2
  refine gw_call (a := As.toArray) (fun H locs ls hw hS hl' => ?_) kk
  refine va_runSN (As := As) (rest := rest) (host := "RopeDance") (n := n) ⟨hx.1, hx.2.1, hx.2.2.1, hx.2.2.2.1, hx.2.2.2.2.1⟩ hM ⟨⟨⟨rfl, rfl, by rw [hR]; show h1 + 1 ≤ h; omega, by rw [hR]; show 8 + (nL1 + 11) + 30 * h1 ≤ 30 * h; omega, pay_in hts (fun w hw => ?_), List.mem_cons_self⟩, hts _ g2, hts _ g1, ⟨g3, g4⟩, fun sig hs => ?_, va_Nw.use rfl hx.2.2.2.2.2.2.1.2.2.2.2.2.2.2⟩, hts _ hs, trivial⟩ ⟨pre_blind, pre_at hx hw hS.1⟩ rfl hn hl'.1 rfl (lv_room hst) d hR2
  · rcases List.mem_cons.mp hw with rfl | q
    · exact lw_gg _ g2
    · exact lw_gg _ q
  · rw [hs] at g5
    exact (Option.some.inj g5).symm
end Rows
/-! what a computed answer says of its tree -/
theorem f_ite {α : Type} {c : Prop} [Decidable c] {A B : Option α} {r : α} (h : (if c then A else B) = some r) : (c → A = some r) ∧ (¬ c → B = some r) := by
  by_cases q : c
  · exact ⟨fun _ => by rw [if_pos q] at h; exact h, fun n => absurd q n⟩
  · exact ⟨fun n => absurd n q, fun _ => by rw [if_neg q] at h; exact h⟩
theorem f_chk {α : Type} {c : Bool} {A : Option α} {r : α} (h : (if c = true then A else none) = some r) : c = true ∧ A = some r := by
  by_cases q : c = true
  · exact ⟨q, by rw [if_pos q] at h; exact h⟩
  · rw [if_neg q] at h
    cases h
theorem f_nz {α : Type} {x : Int32} {A : Option α} {r : α} (h : (if x = 0 then none else A) = some r) : ¬ x = 0 ∧ A = some r := by
  by_cases q : x = 0
  · rw [if_pos q] at h
    cases h
  · exact ⟨q, by rw [if_neg q] at h; exact h⟩
theorem f_bind {α β : Type} {o : Option α} {K : α → Option β} {r : β} (h : o.bind K = some r) : ∃ a, o = some a ∧ K a = some r := by
  cases o with
  | none => cases h
  | some a => exact ⟨a, rfl, h⟩
/-- a step's answer, taken apart -/
def bd2 {α β γ : Type} (o : Option (α × β)) (K : α → β → Option γ) : Option γ := match o with
  | none => none
  | some p => K p.1 p.2
def bd1 {β γ : Type} (o : Option β) (K : β → Option γ) : Option γ := match o with
  | none => none
  | some p => K p
def oel {α β : Type} (o : Option α) (A : β) (B : α → β) : β := match o with
  | none => A
  | some i => B i
theorem bd2_s {α β γ : Type} {a : α} {b : β} {K : α → β → Option γ} : bd2 (some (a, b)) K = K a b := rfl
theorem bd2_n {α β γ : Type} {K : α → β → Option γ} : bd2 none K = none := rfl
theorem bd1_s {β γ : Type} {b : β} {K : β → Option γ} : bd1 (some b) K = K b := rfl
theorem bd1_n {β γ : Type} {K : β → Option γ} : bd1 none K = none := rfl
theorem oel_s {α β : Type} {i : α} {A : β} {B : α → β} : oel (some i) A B = B i := rfl
theorem oel_n {α β : Type} {A : β} {B : α → β} : oel none A B = A := rfl
theorem f_bd2 {α β γ : Type} {o : Option (α × β)} {K : α → β → Option γ} {r : γ} (h : bd2 o K = some r) : ∃ a b, o = some (a, b) ∧ K a b = some r := by
  cases o with
  | none => cases h
  | some p => exact ⟨p.1, p.2, rfl, h⟩
theorem f_bd1 {β γ : Type} {o : Option β} {K : β → Option γ} {r : γ} (h : bd1 o K = some r) : ∃ b, o = some b ∧ K b = some r := by
  cases o with
  | none => cases h
  | some p => exact ⟨p, rfl, h⟩
theorem f_os {α β : Type} {i : α} {A : Option β} {B : α → Option β} {r : β} (h : oel (some i) A B = some r) : B i = some r := h
theorem f_on {α β : Type} {A : Option β} {B : α → Option β} {r : β} (h : oel (none : Option α) A B = some r) : A = some r := h
theorem f_no {β : Type} {r : β} {P : Prop} (h : (none : Option β) = some r) : P := by cases h
