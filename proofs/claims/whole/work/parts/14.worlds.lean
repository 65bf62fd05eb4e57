/-! THE LAW'S WORLDS: the class's cells and the reference's, one after the other, each kept while the other one works -/
abbrev Bx : Type := va_G × (Nat → ClassId) × Nat × (Nat → Nat) × (Nat → Nat) × Option Nat × Nat
def b0 (B : Bx) : Nat := B.2.2.2.2.2.2
def kB (B : Bx) (ad : Nat → Nat → Nat) (ro : Nat → va_E → Prop) : Kx := (B.1, B.2.1, ad, (fun _ _ => False), ro, (fun q => b0 B ≤ q), B.2.2.1, B.2.2.2.1, B.2.2.2.2.1, B.2.2.2.2.2.1)
def ro0 : Nat → va_E → Prop := fun _ _ => False
/-- the cells L, as they are, are what else is kept -/
def roC (B : Bx) (ad : Nat → Nat → Nat) (L : List (Nat × Nat)) (μ : Mm) : Nat → va_E → Prop := fun q e => ∃ x ∈ L, q = ad x.1 x.2 ∧ e = cel (kB B ad ro0) μ x.1 x.2
def ix : List (Nat × Nat) → Nat × Nat → Nat
  | [], _ => 0
  | y :: l, x => if x = y then 0 else ix l x + 1
theorem ix_get : ∀ {l : List (Nat × Nat)} {x : Nat × Nat}, x ∈ l → l[ix l x]? = some x
  | [], x, h => by cases h
  | y :: l, x, h => by
    by_cases e : x = y
    · subst e
      simp [ix]
    · have h1 : x ∈ l := by
        rcases List.mem_cons.mp h with h | h
        · exact absurd h e
        · exact h
      have h2 := ix_get h1
      simp [ix, e, h2]
theorem ix_inj {l : List (Nat × Nat)} {x y : Nat × Nat} (hx : x ∈ l) (hy : y ∈ l) (h : ix l x = ix l y) : x = y := by
  have h1 := ix_get hx
  rw [h, ix_get hy] at h1
  exact (Option.some.inj h1).symm
theorem ix_at : ∀ {l : List (Nat × Nat)}, l.Nodup → ∀ (j : Nat) (x : Nat × Nat), l[j]? = some x → ix l x = j
  | [], _, j, x, h => by simp at h
  | y :: l, hn, 0, x, h => by
    simp at h
    simp [ix, h]
  | y :: l, hn, j + 1, x, h => by
    have h1 : l[j]? = some x := by simpa using h
    have h2 := List.nodup_cons.mp hn
    have h3 : ¬ x = y := fun e => h2.1 (e ▸ List.mem_of_getElem? h1)
    simp [ix, h3, ix_at h2.2 j x h1]
/-- the cells in the order of their making: the class's, the reference's, and the two that come when they are wanted (v: the Search comes first) -/
def NN (v : Bool) : List (Nat × Nat) := ((11, 0) :: nX11) ++ (((12, 0) :: nX12) ++ (if v then nS ++ nU else nU ++ nS))
def ad (v : Bool) (n : Nat) (c i : Nat) : Nat := n + ix (NN v) (c, i)
theorem NN_nodup : ∀ v : Bool, (NN v).Nodup := by decide +kernel
theorem AL_NN {B : Bx} {v : Bool} {ro : Nat → va_E → Prop} : AL (kB B (ad v (b0 B)) ro) (NN v) (b0 B) := fun j q hq => by
  show b0 B + ix (NN v) (q.1, q.2) = b0 B + j
  rw [ix_at (NN_nodup v) j q hq]
/-- whether a list of cells is closed under what they refer to -/
def clo (L : List (Nat × Nat)) : Bool := L.all fun x => (List.range 75).all (fun j => kd x.1 j != 2 || L.contains (rt x.1 x.2 j)) && (ak x.1 < 4 || (List.range (al x.1)).all (fun j => L.contains (re x.1 x.2 j))) && (!(x.1 == 11 || x.1 == 2) || (L.contains (8, 0) && L.contains (8, 1))) && (!(x.1 == 8) || decide (x.2 < 2))
theorem kd_lt {c j : Nat} (h : kd c j = 2) : j < 75 := by
  rcases Nat.lt_or_ge j 75 with q | q
  · exact q
  · exfalso
    unfold kd at h
    split at h <;> simp [List.getD, List.getElem?_eq_none, show ∀ n, n ≤ 75 → n ≤ j from fun n hn => Nat.le_trans hn q] at h
theorem clo_key {L : List (Nat × Nat)} (hc : clo L = true) {c i : Nat} (h : (c, i) ∈ L) : (∀ j, kd c j = 2 → rt c i j ∈ L) ∧ (∀ j, 4 ≤ ak c → j < al c → re c i j ∈ L) ∧ ((c = 11 ∨ c = 2) → (8, 0) ∈ L ∧ (8, 1) ∈ L) ∧ (c = 8 → i < 2) := by
  have h1 := List.all_eq_true.mp hc (c, i) h
  simp only [Bool.and_eq_true, Bool.or_eq_true, decide_eq_true_eq] at h1
  obtain ⟨⟨⟨h2, h3⟩, h4⟩, h5⟩ := h1
  refine ⟨fun j hj => ?_, fun j hj hl => ?_, fun hq => ?_, fun hq => ?_⟩
  · have h6 := List.all_eq_true.mp h2 j (List.mem_range.mpr (kd_lt hj))
    simpa [hj] using h6
  · rcases h3 with h3 | h3
    · omega
    · have h6 := List.all_eq_true.mp h3 j (List.mem_range.mpr hl)
      simpa using h6
  · rcases h4 with h4 | h4
    · rcases hq with rfl | rfl <;> simp at h4
    · simpa using h4
  · rcases h5 with h5 | h5
    · subst hq
      simp at h5
    · exact h5
theorem kok_of {B : Bx} {v : Bool} {ro : Nat → va_E → Prop} {L : List (Nat × Nat)} (hL : ∀ x ∈ L, x ∈ NN v) (hro : ∀ q e, ro q e → ∀ x ∈ L, ad v (b0 B) x.1 x.2 ≠ q) (hc : clo L = true) : kok (kL (kB B (ad v (b0 B)) ro) L) := by
  refine ⟨fun c i c' i' h1 h2 h3 => ?_, fun c i q e h1 h2 => hro q e h2 _ h1, fun c i h1 => Nat.le_add_right _ _, fun c i j h1 h2 => (clo_key hc h2).1 j h1, fun c i j h1 h2 h3 => (clo_key hc h3).2.1 j h1 h2, fun c i h1 h2 => (clo_key hc h1).2.2.1 h2, fun i h1 => (clo_key hc h1).2.2.2 rfl⟩
  have h4 : b0 B + ix (NN v) (c, i) = b0 B + ix (NN v) (c', i') := h3
  have h5 := ix_inj (hL _ h1) (hL _ h2) (Nat.add_left_cancel h4)
  exact ⟨congrArg Prod.fst h5, congrArg Prod.snd h5⟩
/-- which of the two cells are there: 0 none, 1 the Unwinding, 2 the Search, 3 both (the Unwinding first), 4 both (the Search first) -/
def Lc (σ : Nat) : List (Nat × Nat) := match σ with
  | 0 => lX11 []
  | 1 => lX10 (lX11 [])
  | 2 => lX4 (lX11 [])
  | 3 => lX4 (lX10 (lX11 []))
  | _ => lX10 (lX4 (lX11 []))
def Lm : List (Nat × Nat) := lX12 []
def vσ (σ : Nat) : Bool := match σ with
  | 0 => false
  | 1 => false
  | 2 => true
  | 3 => false
  | _ => true
theorem Lc_clo : ∀ σ, σ < 5 → clo (Lc σ) = true ∧ (∀ x ∈ Lc σ, x ∈ NN (vσ σ)) := by decide +kernel
theorem Lc0_v : ∀ x ∈ Lc 0, x ∈ NN true := by decide +kernel
theorem Lm_clo : clo Lm = true ∧ ∀ v : Bool, ∀ x ∈ Lm, x ∈ NN v := by decide +kernel
def isM (c : Nat) : Bool := c == 12 || (decide (48 ≤ c) && decide (c < 92))
theorem Lc_M : ∀ σ, σ < 5 → ∀ x ∈ Lc σ, isM x.1 = false := by decide +kernel
theorem Lm_M : ∀ x ∈ Lm, isM x.1 = true := by decide +kernel
def kC (B : Bx) (σ : Nat) (v : Bool) (ν : Mm) : Kx := kL (kB B (ad v (b0 B)) (roC B (ad v (b0 B)) Lm ν)) (Lc σ)
def kM (B : Bx) (σ : Nat) (v : Bool) (μ : Mm) : Kx := kL (kB B (ad v (b0 B)) (roC B (ad v (b0 B)) (Lc σ) μ)) Lm
theorem Lc_in {σ : Nat} {v : Bool} (hσ : σ < 5) (hv : v = vσ σ ∨ σ = 0) : ∀ x ∈ Lc σ, x ∈ NN v := by
  rcases hv with rfl | rfl
  · exact (Lc_clo σ hσ).2
  · cases v
    · exact (Lc_clo 0 hσ).2
    · exact Lc0_v
theorem ad_ne {B : Bx} {v : Bool} {σ : Nat} (hσ : σ < 5) (hv : v = vσ σ ∨ σ = 0) {x y : Nat × Nat} (hx : x ∈ Lc σ) (hy : y ∈ Lm) : ad v (b0 B) x.1 x.2 ≠ ad v (b0 B) y.1 y.2 := fun e => by
  have h4 : b0 B + ix (NN v) x = b0 B + ix (NN v) y := e
  have h5 := ix_inj (Lc_in hσ hv _ hx) (Lm_clo.2 v _ hy) (Nat.add_left_cancel h4)
  have h6 := Lc_M σ hσ x hx
  rw [h5, Lm_M y hy] at h6
  exact absurd h6 (by decide)
theorem kC_ok {B : Bx} {σ : Nat} {v : Bool} {ν : Mm} (hσ : σ < 5) (hv : v = vσ σ ∨ σ = 0) : kok (kC B σ v ν) :=
  kok_of (Lc_in hσ hv) (fun q e h x hx => by
    obtain ⟨y, hy, rfl, -⟩ := h
    exact ad_ne hσ hv hx hy) (Lc_clo σ hσ).1
theorem kM_ok {B : Bx} {σ : Nat} {v : Bool} {μ : Mm} (hσ : σ < 5) (hv : v = vσ σ ∨ σ = 0) : kok (kM B σ v μ) :=
  kok_of (Lm_clo.2 v) (fun q e h x hx => by
    obtain ⟨y, hy, rfl, -⟩ := h
    exact (ad_ne hσ hv hy hx).symm) Lm_clo.1
theorem kd4 {c j : Nat} (h : kd c j = 4) : c = 11 ∧ (j = 10 ∨ j = 11) := by
  have h0 : ∀ c, c ≠ 11 → ¬ kd c j = 4 := fun c hc => by
    unfold kd
    split <;> first | exact absurd rfl hc | exact getD_ne (by decide) j | (intro q; cases q)
  by_cases hc : c = 11
  · subst hc
    refine ⟨rfl, ?_⟩
    rcases Nat.lt_or_ge j 12 with q | q
    · exact (by decide : ∀ j, j < 12 → kd 11 j = 4 → j = 10 ∨ j = 11) j q h
    · have h1 : kd 11 j = 0 := by
        show List.getD _ j 0 = 0
        simp [List.getD, List.getElem?_eq_none, q]
      rw [h1] at h
      cases h
  · exact absurd h (h0 c hc)
/-- what must be there -/
def nz (σ : Nat) (μ : Mm) : Prop := (gi μ 11 0 10 ≠ 0 → (4, 0) ∈ Lc σ) ∧ (gi μ 11 0 11 ≠ 0 → (10, 0) ∈ Lc σ)
theorem wd_CM {B : Bx} {σ : Nat} {v : Bool} {μ ν : Mm} {H : Heap} (h : wd (kC B σ v ν) μ H) : wd (kM B σ v μ) ν H := by
  refine ⟨fun c i he => h.2.1 _ _ ⟨(c, i), he, rfl, rfl⟩, fun q e hq => ?_, fun c i j h4 he _ => ?_⟩
  · obtain ⟨y, hy, rfl, rfl⟩ := hq
    exact h.1 y.1 y.2 hy
  · have h5 := Lm_M _ he
    rw [(kd4 h4).1] at h5
    exact absurd (show isM 11 = true from h5) (by decide)
theorem Lc_11 : ∀ σ, σ < 5 → ∀ x ∈ Lc σ, x.1 = 11 → x.2 = 0 := by decide +kernel
theorem wd_MC {B : Bx} {σ : Nat} {v : Bool} {μ ν : Mm} {H : Heap} (hσ : σ < 5) (hz : nz σ μ) (h : wd (kM B σ v μ) ν H) : wd (kC B σ v ν) μ H := by
  refine ⟨fun c i he => h.2.1 _ _ ⟨(c, i), he, rfl, rfl⟩, fun q e hq => ?_, fun c i j h4 he hg => ?_⟩
  · obtain ⟨y, hy, rfl, rfl⟩ := hq
    exact h.1 y.1 y.2 hy
  · obtain ⟨rfl, hj⟩ := kd4 h4
    have hi : i = 0 := Lc_11 σ hσ _ he rfl
    subst hi
    rcases hj with rfl | rfl
    · exact hz.1 hg
    · exact hz.2 hg
theorem getD_all {P : Nat → Prop} {l : List Nat} (h0 : P 0) (h : ∀ x ∈ l, P x) (j : Nat) : P (l.getD j 0) := by
  by_cases hj : j < l.length
  · have h1 : l.getD j 0 = l[j] := by simp [List.getD, hj]
    rw [h1]
    exact h _ (List.getElem_mem hj)
  · have h1 : l.getD j 0 = 0 := by simp [List.getD, List.getElem?_eq_none (Nat.not_lt.mp hj)]
    rw [h1]
    exact h0
theorem kd_le (c j : Nat) : kd c j ≤ 4 := by
  unfold kd
  split <;> first | exact getD_all (P := fun x => x ≤ 4) (by decide) (by decide) j | exact Nat.zero_le _
theorem kd3 {c j : Nat} (h : kd c j = 3) : c = 11 ∨ c = 2 := by
  apply Classical.byContradiction
  intro hc
  have h0 : ¬ kd c j = 3 := by
    unfold kd
    split <;> first | exact absurd (Or.inl rfl) hc | exact absurd (Or.inr rfl) hc | exact getD_all (P := fun x => ¬ x = 3) (by decide) (by decide) j | (intro q; cases q)
  exact h0 h
/-- the same cell, read in a world whose cells lie where they lay -/
theorem cel_re {k k' : Kx} {L : List (Nat × Nat)} {μ : Mm} {c i : Nat} {H : Heap} (hA : kA k' = kA k) (hD : kD k' = kD k) (hc : clo L = true) (he : (c, i) ∈ L) (ha : ∀ x ∈ L, kad k' x.1 x.2 = kad k x.1 x.2) (hn : ∀ j, kd c j = 4 → gi μ c i j ≠ 0 → rt c i j ∈ L) (h : va_at (kD k) classes (kad k c i, cel k μ c i) H) : va_at (kD k') classes (kad k' c i, cel k' μ c i) H := by
  obtain ⟨h2, h3, h4, -⟩ := clo_key hc he
  rw [hD, ha _ he]
  by_cases hc20 : c < 20
  · rw [cel_obj hc20] at h ⊢
    have e : flds k' c i (μ.1 c i) (μ.2 c i) = flds k c i (μ.1 c i) (μ.2 c i) := by
      unfold flds
      refine List.map_congr_left (fun j _ => ?_)
      have h5 := kd_le c j
      rcases (show kd c j = 0 ∨ kd c j = 1 ∨ kd c j = 2 ∨ kd c j = 3 ∨ kd c j = 4 by omega) with q | q | q | q | q
      · simp only [fval, q]
      · simp only [fval, q]
      · simp only [fval, q]
        rw [ha _ (h2 j q)]
      · simp only [fval, q]
        have h6 := h4 (kd3 q)
        have h7 : kad k' 8 (tx (μ.1 c i j)) = kad k 8 (tx (μ.1 c i j)) := by
          unfold tx
          split
          · exact ha _ h6.1
          · exact ha _ h6.2
        rw [h7]
      · simp only [fval, q]
        by_cases h6 : μ.1 c i j = 0
        · rw [if_pos h6, if_pos h6]
        · rw [if_neg h6, if_neg h6, ha _ (hn j q h6)]
    rw [e]
    exact h
  · rw [cel_arr hc20] at h ⊢
    have h' : H[kad k c i]? = some (vp_cell (kA k (ak c)) (al c, acel k c i (μ.1 c i) (μ.2 c i))) := h
    show H[kad k c i]? = some (vp_cell (kA k' (ak c)) (al c, acel k' c i (μ.1 c i) (μ.2 c i)))
    rw [h', hA]
    by_cases h4' : ak c < 4
    · have e : acel k' c i (μ.1 c i) (μ.2 c i) = acel k c i (μ.1 c i) (μ.2 c i) := by
        rcases (show ak c < 3 ∨ ak c = 3 by omega) with q | q
        · simp [acel, q]
        · simp [acel, q]
      rw [e]
    · have e : ∀ K : Kx, acel K c i (μ.1 c i) (μ.2 c i) = .inr (.inr (.inr (.inr (fun j => some (kad K (re c i j).1 (re c i j).2))))) := fun K => by simp [acel, show ¬ ak c < 3 by omega, show ¬ ak c = 3 by omega]
      rw [e, e, vp_cell_q, vp_cell_q]
      refine congrArg some (arrV_congr _ _ (fun j hj => ?_))
      rw [ha _ (h3 j (by omega) hj)]
theorem ix_v : ∀ x ∈ Lc 0 ++ Lm, ix (NN true) x = ix (NN false) x := by decide +kernel
theorem ad_v {B : Bx} {v v' : Bool} {x : Nat × Nat} (h : x ∈ Lc 0 ++ Lm) : ad v (b0 B) x.1 x.2 = ad v' (b0 B) x.1 x.2 := by
  have h1 := ix_v x h
  show b0 B + ix (NN v) x = b0 B + ix (NN v') x
  cases v with
  | false => cases v' with
    | false => exact Eq.refl _
    | true => exact congrArg (fun q => b0 B + q) h1.symm
  | true => cases v' with
    | false => exact congrArg (fun q => b0 B + q) h1
    | true => exact Eq.refl _
theorem W_room {p : Program} {l : Launch} {e : Env} {R R' : Room} {s : State} {m : MethodId} {args : Array Value} {below : List Frame} {meth : Method} {c : Code} {H : Heap} {locs : List Loc} {cells slots : Nat} {Q : State → Prop} {g : JFrame} (h : R'.frames ≤ R.frames ∧ R'.cells ≤ R.cells ∧ R'.slots ≤ R.slots ∧ R'.locals ≤ R.locals)
    (kk : W p l e R' s m args below meth c H locs cells slots Q g) : W p l e R s m args below meth c H locs cells slots Q g := by
  intro T hT X
  refine kk T hT { X with room := ?_ }
  have h1 := X.room
  simp only [State.hasRoom, Bool.and_eq_true, decide_eq_true_eq] at h1 ⊢
  obtain ⟨⟨⟨⟨a1, a2, a3, a4, a5, a6⟩, a7⟩, a8⟩, a9⟩ := h1
  exact ⟨⟨⟨⟨by omega, by omega, by omega, by omega, by omega, a6⟩, by omega⟩, by omega⟩, a9⟩
/-! rows of the law's own frame -/
def Og (z : Zx) (B : Bx) (cc : ByteArray) (nL : Nat) (own : String) (ret : Option FieldType) (h : Nat) (T : Nat × Nat) : Prop :=
  (zp z).tables.exec = Jvm.exec ∧ (zc z).code = cc ∧ (zc z).maxLocals = nL ∧ (zs z).vm.findClass own = some (zm z).cls ∧ (∀ w ∈ lw_g, w.before (za z) (zs z) = true) ∧ (∀ (ad : Nat → Nat → Nat) (ex : Nat → Nat → Prop) (ro : Nat → va_E → Prop), wk (B.1, B.2.1, ad, ex, ro, (fun q => b0 B ≤ q), B.2.2.1, B.2.2.2.1, B.2.2.2.2.1, B.2.2.2.2.2.1) (zs z) ∧ rs (B.1, B.2.1, ad, ex, ro, (fun q => b0 B ≤ q), B.2.2.1, B.2.2.2.1, B.2.2.2.2.1, B.2.2.2.2.2.1) (zs z) (zs z).heap) ∧
    (zme z).locks = false ∧ (zme z).sig.returnType = ret ∧ zR z = rmh h T ∧ b0 B = (zs z).heap.size ∧ ao (zs z)
section LawRows
variable {z : Zx} {B : Bx} {k : Kx} {cc : ByteArray} {nL : Nat} {own : String} {ret : Option FieldType} {h : Nat} {T : Nat × Nat} {Q : State → Prop} {C : Nat × Nat} {μ ν : Mm} {pc : Nat} {lv : List (Nat × Value)} {st : List Value} {σ : Nat} {v : Bool}
theorem ok_of (hg : Og z B cc nL own ret h T) {ad : Nat → Nat → Nat} {ro : Nat → va_E → Prop} {L : List (Nat × Nat)} (hk : kok (kL (kB B ad ro) L)) : Ok z (kL (kB B ad ro) L) cc nL own ret h T :=
  ⟨hg.1, hg.2.1, hg.2.2.1, hg.2.2.2.1, hg.2.2.2.2.1, (hg.2.2.2.2.2.1 ad (fun c i => (c, i) ∈ L) ro).1, (hg.2.2.2.2.2.1 ad (fun c i => (c, i) ∈ L) ro).2, hk, hg.2.2.2.2.2.2.1, hg.2.2.2.2.2.2.2.1, hg.2.2.2.2.2.2.2.2.1⟩
theorem oc_of (hg : Og z B cc nL own ret h T) {ad : Nat → Nat → Nat} {ro : Nat → va_E → Prop} : Oc false z (kB B ad ro) cc nL own h T :=
  ⟨hg.1, hg.2.1, hg.2.2.1, hg.2.2.2.1, hg.2.2.2.2.1, (hg.2.2.2.2.2.1 ad (fun _ _ => False) ro).1, (hg.2.2.2.2.2.1 ad (fun _ _ => False) ro).2, (fun q hq => by show b0 B ≤ q; rw [hg.2.2.2.2.2.2.2.2.2.1]; exact hq), hg.2.2.2.2.2.2.1, (fun q => by cases q), hg.2.2.2.2.2.2.2.2.1, (fun q => by cases q), hg.2.2.2.2.2.2.2.2.2.2⟩
theorem l_CM (kk : Gq z (kM B σ v μ) nL Q C pc ν lv st) : Gq z (kC B σ v ν) nL Q C pc μ lv st := fun H locs ls hw hS hl => kk H locs ls (wd_CM hw) hS hl
theorem l_MC (hσ : σ < 5) (hz : nz σ μ) (kk : Gq z (kC B σ v ν) nL Q C pc μ lv st) : Gq z (kM B σ v μ) nL Q C pc ν lv st := fun H locs ls hw hS hl => kk H locs ls (wd_MC hσ hz hw) hS hl
theorem l_xald (hx : Ok z k cc nL own ret h T) {b L : Nat} {xs : Nat → Int32} (hX : va_X b L xs (zs z) (zs z).heap) (hb : b < (zs z).heap.size ∧ ¬ kF k b) {x : Int32} {j : Nat} (h0 : ¬ x < 0) (hj : x.toNatClampNeg = j) (hlt : j < L) (d : decode cc pc = .ok (.iaload, 1)) (kk : Gq z k nL Q C (pc + 1) μ lv (.int (xs j) :: st)) : Gq z k nL Q C pc μ lv (.int x :: .ref b :: st) := by
  subst hj
  intro H locs ls hw hS hl
  obtain ⟨scr, g1, g2, g3, g4, g5⟩ := hX
  have g1' : H[b]? = some scr := (hS.1.2.1 b hb.1 hb.2).trans g1
  exact W.iald hx.1 hx.2.1 g1' g2 g3 (by rw [g4]; exact fun q => q.elim h0 (fun q => by omega)) (g5 _ hlt) rfl rfl d (kk H locs ls hw hS hl)
theorem l_xlen (hx : Ok z k cc nL own ret h T) {b L : Nat} {xs : Nat → Int32} (hX : va_X b L xs (zs z) (zs z).heap) (hb : b < (zs z).heap.size ∧ ¬ kF k b) {n : Int32} (hn : L.toInt32 = n) (d : decode cc pc = .ok (.arraylength, 1)) (kk : Gq z k nL Q C (pc + 1) μ lv (.int n :: st)) : Gq z k nL Q C pc μ lv (.ref b :: st) := by
  intro H locs ls hw hS hl
  obtain ⟨scr, g1, g2, g3, g4, g5⟩ := hX
  have g1' : H[b]? = some scr := (hS.1.2.1 b hb.1 hb.2).trans g1
  exact W.alen hx.1 hx.2.1 g1' g2 (by rw [g4]; exact hn) rfl rfl d (kk H locs ls hw hS hl)
end LawRows
