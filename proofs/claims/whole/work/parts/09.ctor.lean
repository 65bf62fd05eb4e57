/-! CONSTRUCTORS: cells come one by one, at addresses known beforehand; objects whose references are still wanting stand apart in a list -/
def kL (k : Kx) (L : List (Nat × Nat)) : Kx := (kD k, kA k, kad k, (fun c i => (c, i) ∈ L), kro k, kF k, kT k, kSa k, kSv k, kQ k)
def kR (k : Kx) (xs : va_W) : Kx := (kD k, kA k, kad k, kex k, (fun q e => kro k q e ∨ (q, e) ∈ xs), kF k, kT k, kSa k, kSv k, kQ k)
/-- a cell of zeros -/
def zr (μ : Mm) (c i : Nat) : Mm := ((fun x y z => if x = c ∧ y = i then 0 else μ.1 x y z), (fun x y z => if x = c ∧ y = i then 0 else μ.2 x y z))
theorem zr_ne {μ : Mm} {c i c' i' : Nat} (h : ¬ (c' = c ∧ i' = i)) : (zr μ c i).1 c' i' = μ.1 c' i' ∧ (zr μ c i).2 c' i' = μ.2 c' i' := by
  constructor <;> (funext z; show (if c' = c ∧ i' = i then _ else _) = _; rw [if_neg h])
theorem zr_eq {μ : Mm} {c i : Nat} : (zr μ c i).1 c i = (fun _ => 0) ∧ (zr μ c i).2 c i = (fun _ => 0) := by
  constructor <;> (funext z; show (if c = c ∧ i = i then _ else _) = _; simp)
def wdr (k : Kx) (μ : Mm) (xs : va_W) (H : Heap) : Prop :=
  wd k μ H ∧ va_P (kD k) classes xs H ∧ va_D (kF k) xs ∧ (∀ c i q, kex k c i → q ∈ xs → kad k c i ≠ q.1) ∧ ∀ q e x, kro k q e → x ∈ xs → q ≠ x.1
/-- the arrays of references that constructors make have their classes -/
def ao (U : State) : Prop := (Cond.arrayOver (.object "RopeDance$Row")).before #[] U = true ∧ (Cond.arrayOver (.object "RopeDance$Square")).before #[] U = true ∧ (Cond.arrayOver (.array .int)).before #[] U = true
theorem xover_moved {t : FieldType} {u U : State} (hvm : u.vm.Alike U.vm) (h : (Cond.arrayOver t).before #[] u = true) : (Cond.arrayOver t).before #[] U = true :=
  Cond.overAtom_setVm (args := #[]) (s := u) hvm (.arrayOver t) rfl h
theorem ao_moved {u U : State} (hvm : u.vm.Alike U.vm) (h : ao u) : ao U := ⟨xover_moved hvm h.1, xover_moved hvm h.2.1, xover_moved hvm h.2.2⟩
/-- what is fixed in a constructor's walk (as Ok, but for what the cells' list must be) -/
def Oc (q : Bool) (z : Zx) (k : Kx) (cc : ByteArray) (nL : Nat) (own : String) (h : Nat) (T : Nat × Nat) : Prop :=
  (zp z).tables.exec = Jvm.exec ∧ (zc z).code = cc ∧ (zc z).maxLocals = nL ∧ (zs z).vm.findClass own = some (zm z).cls ∧ (∀ w ∈ lw_g, w.before (za z) (zs z) = true) ∧ wk k (zs z) ∧ rs k (zs z) (zs z).heap ∧ (∀ q, (zs z).heap.size ≤ q → kF k q) ∧ (zme z).locks = false ∧ (q = true → (zme z).sig.returnType = none) ∧ zR z = rmh h T ∧ (q = true → (zme z).name = "<init>") ∧ ao (zs z)
def Gcq (z : Zx) (k : Kx) (nL : Nat) (Q : State → Prop) (C : Nat × Nat) (pc : Nat) (μ : Mm) (xs : va_W) (lv : List (Nat × Value)) (st : List Value) : Prop :=
  ∀ (H : Heap) (locs : List Loc) (ls : Array Slot), wdr k μ xs H → Sz z k C H locs → lv_has ls nL lv → Wz z H locs C Q (F0 (zm z) pc ls st)
abbrev Gc (z : Zx) (k : Kx) (nL : Nat) (E : Ez) (C : Nat × Nat) (pc : Nat) (μ : Mm) (xs : va_W) (lv : List (Nat × Value)) (st : List Value) : Prop := Gcq z k nL (Qz z E) C pc μ xs lv st
/-- the addresses of the cells that will come, in their order -/
def AL (k : Kx) (N : List (Nat × Nat)) (n : Nat) : Prop := ∀ (j : Nat) (q : Nat × Nat), N[j]? = some q → kad k q.1 q.2 = n + j
def preC (k : Kx) (L : List (Nat × Nat)) (N : List (Nat × Nat)) (μ : Mm) (xs : va_W) : State → Prop := fun U => wdr (kL k L) μ xs U.heap ∧ wk k U ∧ rs k U U.heap ∧ AL k N U.heap.size ∧ (∀ q, U.heap.size ≤ q → kF k q) ∧ ao U
/-- A CONSTRUCTOR'S CONTRACT: the object stands raw in xs; the cells N come; behind it the cells L' are there -/
def MC (l : Launch) (k : Kx) (h : Nat) (y : MethodName) (b : ByteArray) (nL : Nat) (av : List Value) (L N : List (Nat × Nat)) (T : Nat × Nat) (μ : Mm) (xs : va_W) (L' : List (Nat × Nat)) (μ' : Mm) : Prop :=
  Met l y (.code y b nL none :: lw_g) (rmh h T) (va_Pc av (preC k L N μ xs)) (qq (kL k L', T, none, none, μ')) T.1 T.2 (kF k)
theorem MC.of {l : Launch} {k : Kx} {h : Nat} {y : MethodName} {b : ByteArray} {nL : Nat} {av : List Value} {L N L' : List (Nat × Nat)} {T : Nat × Nat} {μ μ' : Mm} {xs : va_W} {lv : List (Nat × Value)} (hy : plainFor y = true) (hn : y.name = "<init>") (hl : (lg_sl av).length ≤ nL) (hv : lv_args 0 av = lv)
    (body : ∀ z : Zx, zl z = l → Oc true z k b nL y.cls h T → AL k N (zs z).heap.size → Gc z (kL k L) nL (kL k L', T, none, none, μ') (0, 0) 0 μ xs lv []) : MC l k h y b nL av L N T μ xs L' μ' := by
  refine xofW (cc := b) (maxL := nL) (ret := none) hy rfl ?_
  intro p e s m args below meth c s₁ B hml hP
  obtain ⟨rfl, hw, hK, hR, hA, hF, hO⟩ := hP
  have hts := atoms_spec (ws := .code y b nL none :: lw_g) B.pre
  have hx : Oc true (p, l, e, rmh h T, s, m, av.toArray, below, meth, c) k b nL y.cls h T := ⟨B.exec, B.bytes, hml, findClass_of_methodNamed B.named, fun w hw => hts w (List.mem_cons_of_mem _ hw), hK, hR, hF, B.notSynchronized, fun _ => B.returns, rfl, fun _ => (name_of_methodNamed B.named B.method).1.trans hn, hO⟩
  have h1 := lv_entry av hl
  rw [hv] at h1
  rw [lg_entry_eq]
  exact body _ rfl hx hA s.heap [] _ hw ⟨va_S.rf, rfl⟩ h1
theorem kok_apart {k : Kx} {L : List (Nat × Nat)} {μ : Mm} {H : Heap} {c i : Nat} (hw : wd (kL k L) μ H) (he : (c, i) ∈ L) : kad k c i < H.size := (hw.1 c i he).lt
section CRows
variable {qb : Bool} {z : Zx} {k : Kx} {cc : ByteArray} {nL : Nat} {own : String} {h : Nat} {T : Nat × Nat} {E : Ez} {Q : State → Prop} {C : Nat × Nat} {μ' μ : Mm} {pc : Nat} {lv : List (Nat × Value)} {st : List Value} {xs : va_W} {L : List (Nat × Nat)}
/-- steps that only move the frame -/
theorem c_iconst (hx : Oc qb z k cc nL own h T) {n : Int} {v : Int32} (hv : Int32.ofInt n = v) (d : decode cc pc = .ok (.iconst n, 1)) (kk : Gcq z (kL k L) nL Q C (pc + 1) μ xs lv (.int v :: st)) : Gcq z (kL k L) nL Q C pc μ xs lv st :=
  fun H locs ls hw hS hl => lv_iconst hx.1 hx.2.1 d hv (kk H locs ls hw hS hl)
theorem c_bipush (hx : Oc qb z k cc nL own h T) {n : Int} {v : Int32} (hv : (Int8.ofInt n).toInt32 = v) (d : decode cc pc = .ok (.bipush n, 2)) (kk : Gcq z (kL k L) nL Q C (pc + 2) μ xs lv (.int v :: st)) : Gcq z (kL k L) nL Q C pc μ xs lv st :=
  fun H locs ls hw hS hl => lv_bipush hx.1 hx.2.1 d hv (kk H locs ls hw hS hl)
theorem c_sipush (hx : Oc qb z k cc nL own h T) {n : Int} {v : Int32} (hv : (Int16.ofInt n).toInt32 = v) (d : decode cc pc = .ok (.sipush n, 3)) (kk : Gcq z (kL k L) nL Q C (pc + 3) μ xs lv (.int v :: st)) : Gcq z (kL k L) nL Q C pc μ xs lv st :=
  fun H locs ls hw hS hl => lv_sipush hx.1 hx.2.1 d hv (kk H locs ls hw hS hl)
theorem c_iloadn (hx : Oc qb z k cc nL own h T) (q : Nat) {f : Fin 4} {i : Nat} {x : Int32} (hq : lv[q]? = some (i, .int x)) (hi : (f : Nat) = i) (d : decode cc pc = .ok (.iload_n f, 1)) (kk : Gcq z (kL k L) nL Q C (pc + 1) μ xs lv (.int x :: st)) : Gcq z (kL k L) nL Q C pc μ xs lv st :=
  fun H locs ls hw hS hl => lv_iload_n hx.1 hx.2.1 d hi (lv_at hl q hq) (kk H locs ls hw hS hl)
theorem c_aloadn (hx : Oc qb z k cc nL own h T) (q : Nat) {f : Fin 4} {i : Nat} {x : Nat} (hq : lv[q]? = some (i, .ref x)) (hi : (f : Nat) = i) (d : decode cc pc = .ok (.aload_n f, 1)) (kk : Gcq z (kL k L) nL Q C (pc + 1) μ xs lv (.ref x :: st)) : Gcq z (kL k L) nL Q C pc μ xs lv st :=
  fun H locs ls hw hS hl => lv_aload_n hx.1 hx.2.1 d hi (lv_at hl q hq) (kk H locs ls hw hS hl)
theorem c_istoren (hx : Oc qb z k cc nL own h T) {f : Fin 4} {i : Nat} {x : Int32} {lv' : List (Nat × Value)} (hi : (f : Nat) = i) (hn : i < nL) (hl' : (i, Value.int x) :: lv.filter (fun q => !(q.1 == i) && !(q.1 + 1 == i && q.2.category == 2)) = lv') (d : decode cc pc = .ok (.istore_n f, 1)) (kk : Gcq z (kL k L) nL Q C (pc + 1) μ xs lv' st) : Gcq z (kL k L) nL Q C pc μ xs lv (.int x :: st) :=
  fun H locs ls hw hS hl => lv_istore_n hx.1 hx.2.1 d hi hl hn hl' (fun ls' hl2 => kk H locs ls' hw hS hl2)
theorem c_iinc (hx : Oc qb z k cc nL own h T) (q : Nat) {i : Nat} {n : Int} {x v : Int32} {lv' : List (Nat × Value)} (hq : lv[q]? = some (i, .int x)) (hv : x + Int32.ofInt n = v) (hn : i < nL) (hl' : (i, Value.int v) :: lv.filter (fun q => !(q.1 == i) && !(q.1 + 1 == i && q.2.category == 2)) = lv') (d : decode cc pc = .ok (.iinc i n, 3)) (kk : Gcq z (kL k L) nL Q C (pc + 3) μ xs lv' st) : Gcq z (kL k L) nL Q C pc μ xs lv st :=
  fun H locs ls hw hS hl => lv_iinc hx.1 hx.2.1 d hl hq hv hn hl' (fun ls' hl2 => kk H locs ls' hw hS hl2)
theorem c_dup (hx : Oc qb z k cc nL own h T) {v : Value} (hv : v.category = 1) (d : decode cc pc = .ok (.dup, 1)) (kk : Gcq z (kL k L) nL Q C (pc + 1) μ xs lv (v :: v :: st)) : Gcq z (kL k L) nL Q C pc μ xs lv (v :: st) :=
  fun H locs ls hw hS hl => lv_dup hx.1 hx.2.1 d hv (kk H locs ls hw hS hl)
theorem c_goto (hx : Oc qb z k cc nL own h T) {off : Int} {tgt : Nat} (ht : (pc : Int) + off = (tgt : Int)) (d : decode cc pc = .ok (.goto off, 3)) (kk : Gcq z (kL k L) nL Q C tgt μ xs lv st) : Gcq z (kL k L) nL Q C pc μ xs lv st :=
  fun H locs ls hw hS hl => lv_goto hx.1 hx.2.1 d ht (kk H locs ls hw hS hl)
theorem c_icge (hx : Oc qb z k cc nL own h T) {x y : Int32} {off : Int} {tgt : Nat} (ht : (pc : Int) + off = (tgt : Int)) (d : decode cc pc = .ok (.if_icmp .ge off, 3)) (kt : y ≤ x → Gcq z (kL k L) nL Q C tgt μ xs lv st) (kf : ¬ y ≤ x → Gcq z (kL k L) nL Q C (pc + 3) μ xs lv st) : Gcq z (kL k L) nL Q C pc μ xs lv (.int y :: .int x :: st) :=
  fun H locs ls hw hS hl => lv_icmp_ge hx.1 hx.2.1 d ht (fun q => kt q H locs ls hw hS hl) (fun q => kf q H locs ls hw hS hl)
theorem c_gets (hx : Oc qb z k cc nL own h T) {idx : Nat} (hl : Cond.fieldLink own idx "RopeDance$Text" "MOST_WORTH" "[I" ∈ lw_g) (d : decode cc pc = .ok (.getstatic idx, 3)) (kk : Gcq z (kL k L) nL Q C (pc + 3) μ xs lv (.ref (kT k) :: st)) : Gcq z (kL k L) nL Q C pc μ xs lv st :=
  fun H locs ls hw hS hl' => va_gets hx.1 hx.2.1 hx.2.2.2.2.2.2.1.1 hS.1 hx.2.2.2.1 (hx.2.2.2.2.1 _ hl) (fun _ h9 => h9) d (kk H locs ls hw hS hl')
theorem c_tlen (hx : Oc qb z k cc nL own h T) (d : decode cc pc = .ok (.arraylength, 1)) (kk : Gcq z (kL k L) nL Q C (pc + 1) μ xs lv (.int 4 :: st)) : Gcq z (kL k L) nL Q C pc μ xs lv (.ref (kT k) :: st) :=
  fun H locs ls hw hS hl' => va_tlen hx.1 hx.2.1 hx.2.2.2.2.2.2.1.2.1 hS.1 rfl d (kk H locs ls hw hS hl')
theorem c_objInit (hx : Oc qb z k cc nL own h T) {idx : Nat} {a : Addr} (h1 : Cond.methodLink own idx Lib.objectInit ∈ lw_g) (h2 : Cond.instanceMethod Lib.objectInit ∈ lw_g) (h3 : Cond.code Lib.objectInit ⟨#[0xb1]⟩ 1 none ∈ lw_g) (hh : 0 < h) (hst : (st.map fun v => v.category).sum ≤ 8) (d : decode cc pc = .ok (.invokespecial idx, 3)) (kk : Gcq z (kL k L) nL Q C (pc + 3) μ xs lv st) : Gcq z (kL k L) nL Q C pc μ xs lv (.ref a :: st) :=
  fun H locs ls hw hS hl => W.objInit hx.1 hx.2.1 hx.2.2.2.1 (hx.2.2.2.2.1 _ h1) (hx.2.2.2.2.1 _ h2) (hx.2.2.2.2.1 _ h3) rfl (hl.1.trans hx.2.2.1.symm) rfl d (by rw [hx.2.2.2.2.2.2.2.2.2.2.1]; exact hh) (by rw [hx.2.2.2.2.2.2.2.2.2.2.1]; show 2 * 0 + _ + 12 ≤ 30 * h; omega) (kk H locs ls hw hS hl)
/-- the heap has grown by one cell -/
theorem wd_grow {H H1 : Heap} (hw : wd (kL k L) μ H) (o1 : ∀ q, q < H.size → H1[q]? = H[q]?) : wd (kL k L) μ H1 :=
  ⟨fun c i he => (hw.1 c i he).kept (o1 _ (hw.1 c i he).lt), fun q e he => (hw.2.1 q e he).kept (o1 _ (hw.2.1 q e he).lt), hw.2.2⟩
theorem xs_grow {H H1 : Heap} (hP : va_P (kD k) classes xs H) (o1 : ∀ q, q < H.size → H1[q]? = H[q]?) : va_P (kD k) classes xs H1 := hP.kept (fun j x hx => o1 x.1 ((hP j x hx).lt))
theorem xs_lt {H : Heap} (hP : va_P (kD k) classes xs H) {x : Nat × va_E} (hx : x ∈ xs) : x.1 < H.size := by
  obtain ⟨j, hj⟩ := List.getElem?_of_mem hx
  exact (hP j x hj).lt
/-- a raw cell more -/
theorem wdr_push {H H1 : Heap} {e : va_E} {a : Nat} (hw : wdr (kL k L) μ xs H) (ha : a = H.size) (o1 : ∀ q, q < H.size → H1[q]? = H[q]?) (h1 : va_at (kD k) classes (a, e) H1) (hF : kF k a) : wdr (kL k L) μ (xs ++ [(a, e)]) H1 := by
  obtain ⟨g1, g2, g3, g4, g5⟩ := hw
  refine ⟨wd_grow g1 o1, (xs_grow g2 o1).app (fun j x hx => ?_), g3.push g2 ha hF, fun c i q he hq => ?_, fun q e2 x he hq => ?_⟩
  · have hz : j < 1 := (List.getElem?_eq_some_iff.mp hx).1
    rw [show j = 0 by omega] at hx
    cases hx
    exact h1
  · rcases List.mem_append.mp hq with hq | hq
    · exact g4 c i q he hq
    · rw [List.mem_singleton.mp hq]
      have := (g1.1 c i he).lt
      show kad k c i ≠ a
      have h9 : kad k c i < H.size := this
      omega
  · rcases List.mem_append.mp hq with hq | hq
    · exact g5 q e2 x he hq
    · rw [List.mem_singleton.mp hq]
      have h9 : q < H.size := (g1.2.1 q e2 he).lt
      show q ≠ a
      omega
/-- a cell more that is as it will be -/
theorem wdr_cell {H H1 : Heap} {μ1 : Mm} {c i : Nat} (hw : wdr (kL k L) μ xs H) (ha : kad k c i = H.size) (o1 : ∀ q, q < H.size → H1[q]? = H[q]?) (h1 : va_at (kD k) classes (kad k c i, cel k μ1 c i) H1)
    (hμ : ∀ c' i', ¬ (c' = c ∧ i' = i) → μ1.1 c' i' = μ.1 c' i' ∧ μ1.2 c' i' = μ.2 c' i') (hn : ∀ j, kd c j = 4 → μ1.1 c i j = 0) : wdr (kL k ((c, i) :: L)) μ1 xs H1 := by
  obtain ⟨g1, g2, g3, g4, g5⟩ := hw
  have hne : ∀ c' i', (c', i') ∈ L → ¬ (c' = c ∧ i' = i) := fun c' i' he e => by
    have h9 : kad k c' i' < H.size := (g1.1 c' i' he).lt
    rw [e.1, e.2] at h9
    omega
  refine ⟨⟨fun c' i' he => ?_, fun q e he => (g1.2.1 q e he).kept (o1 _ (g1.2.1 q e he).lt), fun c' i' j h4 he hg => ?_⟩, xs_grow g2 o1, g3, fun c' i' q he hq => ?_, g5⟩
  · rcases List.mem_cons.mp he with e | he
    · injection e with e1 e2
      subst e1; subst e2
      exact h1
    · have h9 := (g1.1 c' i' he).kept (o1 _ (g1.1 c' i' he).lt)
      have e9 : cel (kL k ((c, i) :: L)) μ1 c' i' = cel (kL k L) μ c' i' := cel_ne (k := kL k L) (hμ c' i' (hne c' i' he)).1 (hμ c' i' (hne c' i' he)).2
      rw [e9]
      exact h9
  · rcases List.mem_cons.mp he with e | he
    · injection e with e1 e2
      subst e1; subst e2
      exact absurd (hn j h4) hg
    · refine List.mem_cons_of_mem _ (g1.2.2 c' i' j h4 he (fun q => hg ?_))
      show μ1.1 c' i' j = 0
      rw [(hμ c' i' (hne c' i' he)).1]
      exact q
  · rcases List.mem_cons.mp he with e | he
    · injection e with e1 e2
      subst e1; subst e2
      have h9 := xs_lt g2 hq
      show kad k _ _ ≠ q.1
      omega
    · exact g4 c' i' q he hq
theorem c_new (hx : Oc qb z k cc nL own h T) {c i idx N : Nat} {Cn : String} {TT : u_T} {ty : Nat → FieldType} {fs : List Value} (hc : classes[c]? = some (Cn, TT, N)) (hin : ∀ w ∈ u_ws Cn TT N, w ∈ lw_g) (hty : ∀ k, k < N → parseFieldDescriptor (TT k).2.2.1 = some (ty k)) (h1 : Cond.classLink own idx Cn ∈ lw_g) (h2 : Cond.instantiable Cn N ∈ lw_g) (h3 : Cond.initialized Cn ∈ lw_g)
    (ha : kad k c i = (zs z).heap.size + C.1) (hfs : ∀ j, j < N → defaultValue (ty j) = vp_V fs j) (hCT : C.1 + 1 ≤ T.1 ∧ C.2 + N ≤ T.2) (d : decode cc pc = .ok (.new idx, 3))
    (kk : Gcq z (kL k L) nL Q (C.1 + 1, C.2 + N) (pc + 3) μ (xs ++ [(kad k c i, .inr (c, fs))]) lv (.ref (kad k c i) :: st)) : Gcq z (kL k L) nL Q C pc μ xs lv st := by
  intro H locs ls hw hS hl
  have hKn := hx.2.2.2.2.2.1.1 c _ hc
  refine W.newcK hx.1 hx.2.1 hx.2.2.2.1 (hx.2.2.2.2.1 _ h1) (hx.2.2.2.2.1 _ h2) (hx.2.2.2.2.1 _ h3) rfl d (by rw [hx.2.2.2.2.2.2.2.2.2.2.1]; exact hCT.1) (by rw [hx.2.2.2.2.2.2.2.2.2.2.1]; exact hCT.2) hKn.2.1 rfl fun H1 kC hkC e1 z1 o1 => ?_
  have ha2 : kad k c i = H.size := ha.trans hS.2.symm
  have hk := kk H1 locs ls (wdr_push hw ha2 o1 ⟨_, hc, by rw [ha2]; exact (u_born ty hx.2.2.2.2.1 hin hKn hkC e1 hty).to hfs⟩ (by rw [ha2]; exact hx.2.2.2.2.2.2.2.1 _ hS.1.1))
    ⟨⟨Nat.le_trans hS.1.1 (by omega), fun x g1 g2 => (o1 x (Nat.lt_of_lt_of_le g1 hS.1.1)).trans (hS.1.2.1 x g1 g2), hS.1.2.2⟩, by have := hS.2; omega⟩ hl
  rw [ha2] at hk
  exact hk
theorem c_newarr (hx : Oc qb z k cc nL own h T) {t i N : Nat} {x : Int32} {atype : ArrayType} (h1 : Cond.arrayClass (newarray.typeOf atype) ∈ lw_g) (hc : ¬ t < 20) (hak : ak t < 4) (hty : newarray.typeOf atype = kty (ak t)) (hxn : x.toNatClampNeg = N) (hN : al t = N) (hneg : ¬ x < 0) (hby : N * componentBytes (newarray.typeOf atype) ≤ 536870912)
    (ha : kad k t i = (zs z).heap.size + C.1) (hCT : C.1 + 1 ≤ T.1 ∧ C.2 + N ≤ T.2) (d : decode cc pc = .ok (.newarray atype, 2))
    (kk : Gcq z (kL k ((t, i) :: L)) nL Q (C.1 + 1, C.2 + N) (pc + 2) (zr μ t i) xs lv (.ref (kad k t i) :: st)) : Gcq z (kL k L) nL Q C pc μ xs lv (.int x :: st) := by
  intro H locs ls hw hS hl
  have ha2 : kad k t i = H.size := ha.trans hS.2.symm
  refine va_newaK (N := N) hx.1 hx.2.1 (hx.2.2.2.2.1 _ h1) rfl d rfl hneg hxn hby (by rw [hx.2.2.2.2.2.2.2.2.2.2.1]; exact hCT.1) (by rw [hx.2.2.2.2.2.2.2.2.2.2.1]; exact hCT.2) rfl fun H1 cA e1 z1 o1 hAr hNm => ?_
  have hcA : cA = kA k (ak t) := by
    have hK := (hx.2.2.2.2.2.1.2 (ak t) _ (ty_at (by omega))).2
    rw [hty] at hNm
    have h9 : (zs z).vm.findClass ("[" ++ (kty (ak t)).toString) = some (kA k (ak t)) := by
      revert hK
      rcases (show ak t = 0 ∨ ak t = 1 ∨ ak t = 2 ∨ ak t = 3 by omega) with q | q | q | q <;> rw [q] <;> exact fun h => h
    exact Option.some.inj (hNm.symm.trans h9)
  have hk := kk H1 locs ls (wdr_cell (μ1 := zr μ t i) hw ha2 o1 ?_ (fun c' i' hne => zr_ne hne) (fun j hj => by rw [zr_eq.1]))
    ⟨⟨Nat.le_trans hS.1.1 (by omega), fun x g1 g2 => (o1 x (Nat.lt_of_lt_of_le g1 hS.1.1)).trans (hS.1.2.1 x g1 g2), hS.1.2.2⟩, by have := hS.2; omega⟩ hl
  · rw [ha2] at hk
    exact hk
  · rw [cel_arr hc, hN]
    show H1[kad k t i]? = some (vp_cell (kA k (ak t)) _)
    rw [ha2, e1, hcA, hty, zr_eq.1, zr_eq.2]
    rcases (show ak t = 0 ∨ ak t = 1 ∨ ak t = 2 ∨ ak t = 3 by omega) with q | q | q | q <;> simp [acel, q, kty, vp_cell, defaultValue]
end CRows
