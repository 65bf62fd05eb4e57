/-! THE LAW'S WALK, the ground: where the two later cells lie may be chosen while neither is there -/
theorem wd_ad {B : Bx} {a1 a2 : Nat → Nat → Nat} {L M : List (Nat × Nat)} {μ ν : Mm} {H : Heap} (hL : ∀ x ∈ L, a2 x.1 x.2 = a1 x.1 x.2) (hM : ∀ x ∈ M, a2 x.1 x.2 = a1 x.1 x.2) (cL : clo L = true) (cM : clo M = true) (nM : ∀ x ∈ M, x.1 ≠ 11) (h : wd (kL (kB B a1 (roC B a1 M ν)) L) μ H) : wd (kL (kB B a2 (roC B a2 M ν)) L) μ H := by
  refine ⟨fun c i he => ?_, fun q e hq => ?_, h.2.2⟩
  · exact cel_re (k := kL (kB B a1 (roC B a1 M ν)) L) (k' := kL (kB B a2 (roC B a2 M ν)) L) (L := L) rfl rfl cL he hL (fun j h4 hg => h.2.2 c i j h4 he hg) (h.1 c i he)
  · obtain ⟨y, hy, rfl, rfl⟩ := hq
    exact cel_re (k := kB B a1 ro0) (k' := kB B a2 ro0) (L := M) rfl rfl cM hy hM (fun j h4 _ => absurd (kd4 h4).1 (nM _ hy)) (h.2.1 _ _ ⟨y, hy, rfl, rfl⟩)
theorem Lm_11 : ∀ x ∈ Lm, x.1 ≠ 11 := by decide +kernel
theorem Lc0_clo : clo (Lc 0) = true := (Lc_clo 0 (by decide)).1
theorem wd_v {B : Bx} {v v' : Bool} {μ ν : Mm} {H : Heap} (h : wd (kC B 0 v ν) μ H) : wd (kC B 0 v' ν) μ H :=
  wd_ad (a1 := ad v (b0 B)) (a2 := ad v' (b0 B)) (fun _ hx => ad_v (List.mem_append_left _ hx)) (fun _ hx => ad_v (List.mem_append_right _ hx)) Lc0_clo Lm_clo.1 Lm_11 h
theorem Sz_F {z : Zx} {k k' : Kx} {C : Nat × Nat} {H : Heap} {locs : List Loc} {f : Nat → Prop} (h1 : kF k = f) (h2 : kF k' = f) (hS : Sz z k C H locs) : Sz z k' C H locs := by
  unfold Sz at hS ⊢
  rw [h2]
  rw [h1] at hS
  exact hS
theorem kF_C {B : Bx} {σ : Nat} {v : Bool} {ν : Mm} : kF (kC B σ v ν) = fun q => b0 B ≤ q := rfl
theorem kF_M {B : Bx} {σ : Nat} {v : Bool} {μ : Mm} : kF (kM B σ v μ) = fun q => b0 B ≤ q := rfl
/-- the law's locals -/
abbrev lvL (B : Bx) (v : Bool) (b : Nat) (i : Int32) : List (Nat × Value) := [(3, .int i), (2, .ref (ad v (b0 B) 12 0)), (1, .ref (ad v (b0 B) 11 0)), (0, .ref b)]
theorem e11 : ∀ σ, σ < 5 → (11, 0) ∈ Lc σ := by decide +kernel
theorem e10 : (10, 0) ∈ Lc 1 ∧ (10, 0) ∈ Lc 3 ∧ (10, 0) ∈ Lc 4 := by decide +kernel
theorem e4 : (4, 0) ∈ Lc 2 ∧ (4, 0) ∈ Lc 3 ∧ (4, 0) ∈ Lc 4 := by decide +kernel
theorem e12 : (12, 0) ∈ Lm := by decide +kernel
/-- the cells and slots made so far -/
def Cs (σ : Nat) : Nat × Nat := match σ with
  | 0 => (208, 136254)
  | 1 => (211, 146156)
  | 2 => (212, 168179)
  | 3 => (215, 178081)
  | _ => (215, 178081)
theorem Cs_le : ∀ σ, σ < 5 → (Cs σ).1 ≤ 600000 ∧ (Cs σ).2 ≤ 7302250 := by
  intro σ h
  rcases (show σ = 0 ∨ σ = 1 ∨ σ = 2 ∨ σ = 3 ∨ σ = 4 by omega) with rfl | rfl | rfl | rfl | rfl <;> exact ⟨Nat.le_of_ble_eq_true rfl, Nat.le_of_ble_eq_true rfl⟩
abbrev TL : Nat × Nat := (600000, 7302250)
/-- 0, 1 of x != 0 -/
def nz01 (x : Int32) : Int32 := if x = 0 then 0 else 1
theorem ix_k {j k : Nat} (h : j + k < 3072) : ¬ (Int32.ofNat j + Int32.ofNat k) < 0 ∧ (Int32.ofNat j + Int32.ofNat k).toNatClampNeg = j + k := by
  rw [← Int32.ofNat_add]
  have h1 : (Int32.ofNat (j + k)).toInt = ((j + k : Nat) : Int) := Int32.toInt_ofNat_of_lt (by omega)
  constructor
  · rw [Int32.lt_iff_toInt_lt, h1]
    show ¬ (((j + k : Nat) : Int) < (0 : Int32).toInt)
    have h2 : (0 : Int32).toInt = 0 := by decide
    omega
  · unfold Int32.toNatClampNeg
    rw [h1]
    rfl
theorem and63 (x : Int32) : ∃ n, n < 64 ∧ x &&& 63 = Int32.ofNat n := by
  refine ⟨(x &&& 63).toBitVec.toNat, ?_, ?_⟩
  · rw [Int32.toBitVec_and, BitVec.toNat_and]
    exact Nat.lt_of_le_of_lt Nat.and_le_right (by decide)
  · apply Int32.toBitVec_inj.mp
    simp
section LawWalk
variable {z : Zx} {B : Bx} {k : Kx} {nL : Nat} {own : String} {ret : Option FieldType} {h : Nat} {T : Nat × Nat} {Q : State → Prop} {C : Nat × Nat} {μ ν : Mm} {pc : Nat} {lv : List (Nat × Value)} {st : List Value} {σ : Nat} {v v' : Bool}
theorem l_v (kk : Gq z (kC B 0 v' ν) nL Q C pc μ lv st) : Gq z (kC B 0 v ν) nL Q C pc μ lv st := fun H locs ls hw hS hl => kk H locs ls (wd_v hw) (Sz_F (f := fun q => b0 B ≤ q) kF_C kF_C hS) hl
theorem lvL_v {b : Nat} {i : Int32} : lvL B v b i = lvL B v' b i := by
  have h1 : ad v (b0 B) 11 0 = ad v' (b0 B) 11 0 := ad_v (x := (11, 0)) (List.mem_append_left _ (e11 0 (by decide)))
  have h2 : ad v (b0 B) 12 0 = ad v' (b0 B) 12 0 := ad_v (x := (12, 0)) (List.mem_append_right _ e12)
  show [(3, Value.int i), (2, .ref (ad v (b0 B) 12 0)), (1, .ref (ad v (b0 B) 11 0)), (0, .ref b)] = [(3, .int i), (2, .ref (ad v' (b0 B) 12 0)), (1, .ref (ad v' (b0 B) 11 0)), (0, .ref b)]
  rw [h1, h2]
theorem okC {cc : ByteArray} (hg : Og z B cc nL own ret h T) (hs : σ < 5) (hv : v = vσ σ ∨ σ = 0) : Ok z (kC B σ v ν) cc nL own ret h T := ok_of hg (kC_ok hs hv)
theorem okM {cc : ByteArray} (hg : Og z B cc nL own ret h T) (hs : σ < 5) (hv : v = vσ σ ∨ σ = 0) : Ok z (kM B σ v μ) cc nL own ret h T := ok_of hg (kM_ok hs hv)
theorem nFC {b : Nat} (hg : b0 B = (zs z).heap.size) (hb : b < (zs z).heap.size) : b < (zs z).heap.size ∧ ¬ kF (kC B σ v ν) b := ⟨hb, by rw [kF_C, hg]; exact Nat.not_le.mpr hb⟩
theorem nFM {b : Nat} (hg : b0 B = (zs z).heap.size) (hb : b < (zs z).heap.size) : b < (zs z).heap.size ∧ ¬ kF (kM B σ v μ) b := ⟨hb, by rw [kF_M, hg]; exact Nat.not_le.mpr hb⟩
/-- one int of the script is laid on the stack -/
theorem l_arg (hx : Ok z k code 4 own ret h T) {b L j : Nat} {xs : Nat → Int32} (hX : va_X b L xs (zs z) (zs z).heap) (hb : b < (zs z).heap.size ∧ ¬ kF k b) (h0 : lv[3]? = some (0, .ref b)) (h3 : lv[0]? = some (3, .int (Int32.ofNat j))) (hj : j + 6 ≤ L) (hL : L ≤ 3072) (n : Nat) (hn : n < 6) {y : Int32} (hy : Int32.ofInt n = y) (hy2 : y = Int32.ofNat n)
    (d0 : decode code pc = .ok (.aload_n 0, 1)) (d1 : decode code (pc + 1) = .ok (.iload_n 3, 1)) (d2 : decode code (pc + 2) = .ok (.iconst n, 1)) (d3 : decode code (pc + 3) = .ok (.iadd, 1)) (d4 : decode code (pc + 4) = .ok (.iaload, 1)) (kk : Gq z k 4 Q C (pc + 5) μ lv (.int (xs (j + n)) :: st)) : Gq z k 4 Q C pc μ lv st := by
  refine r_aloadn hx 3 h0 rfl d0 ?_
  refine r_iloadn hx 0 h3 rfl d1 ?_
  refine r_iconst hx hy d2 ?_
  refine r_iadd hx d3 ?_
  subst hy2
  have q := ix_k (j := j) (k := n) (by omega)
  exact l_xald hx hX hb q.1 q.2 (by omega) d4 kk
theorem l_bool (hx : Ok z k code 4 own ret h T) {x : Int32} (d0 : decode code pc = .ok (.ifCond .eq 7, 3)) (d1 : decode code (pc + 3) = .ok (.iconst 1, 1)) (d2 : decode code (pc + 4) = .ok (.goto 4, 3)) (d3 : decode code (pc + 7) = .ok (.iconst 0, 1)) (kk : Gq z k 4 Q C (pc + 8) μ lv (.int (nz01 x) :: st)) : Gq z k 4 Q C pc μ lv (.int x :: st) := by
  refine r_ifeq (tgt := pc + 7) hx (by omega) d0 (fun q => ?_) (fun q => ?_)
  · refine r_iconst (v := 0) hx (by decide) d3 ?_
    have e : nz01 x = 0 := if_pos q
    rw [e] at kk
    exact kk
  · refine r_iconst (v := 1) hx (by decide) d1 ?_
    refine r_goto (tgt := pc + 8) hx (by omega) d2 ?_
    have e : nz01 x = 1 := if_neg q
    rw [e] at kk
    exact kk
end LawWalk
/-! WHAT THE PURE PART HAS TO GIVE: an invariant that each call keeps, both answering alike -/
def st2 (Iv : Bool → Bool → Mm → Mm → Prop) (f g : Mm → Option (Int32 × Mm)) : Prop := ∀ u s μ ν, Iv u s μ ν → ∃ r μ' ν', f μ = some (r, μ') ∧ g ν = some (r, ν') ∧ Iv u s μ' ν'
def mkU (Iv : Bool → Bool → Mm → Mm → Prop) (f fn fa g : Mm → Option (Int32 × Mm)) : Prop := ∀ s μ ν, (Iv true s μ ν → ∃ r μ' ν', f μ = some (r, μ') ∧ g ν = some (r, ν') ∧ Iv true s μ' ν') ∧
  (Iv false s μ ν → (∃ r μ' ν', fn μ = some (r, μ') ∧ g ν = some (r, ν') ∧ Iv false s μ' ν') ∨ ∃ r μ' ν', fa μ = some (r, μ') ∧ g ν = some (r, ν') ∧ Iv true s μ' ν')
def mkS (Iv : Bool → Bool → Mm → Mm → Prop) (f fn fa g : Mm → Option (Int32 × Mm)) : Prop := ∀ u μ ν, (Iv u true μ ν → ∃ r μ' ν', f μ = some (r, μ') ∧ g ν = some (r, ν') ∧ Iv u true μ' ν') ∧
  (Iv u false μ ν → (∃ r μ' ν', fn μ = some (r, μ') ∧ g ν = some (r, ν') ∧ Iv u false μ' ν') ∨ ∃ r μ' ν', fa μ = some (r, μ') ∧ g ν = some (r, ν') ∧ Iv u true μ' ν')
def uσ (σ : Nat) : Bool := match σ with
  | 0 => false
  | 1 => true
  | 2 => false
  | _ => true
def sσ (σ : Nat) : Bool := match σ with
  | 0 => false
  | 1 => false
  | _ => true
/-- the invariant says which of the two later cells is there -/
def nzI (Iv : Bool → Bool → Mm → Mm → Prop) : Prop := ∀ u s μ ν, Iv u s μ ν → (gi μ 11 0 10 ≠ 0 → s = true) ∧ (gi μ 11 0 11 ≠ 0 → u = true)
theorem nz_of {Iv : Bool → Bool → Mm → Mm → Prop} (hn : nzI Iv) {σ : Nat} (hs : σ < 5) {μ ν : Mm} (h : Iv (uσ σ) (sσ σ) μ ν) : nz σ μ := by
  have q := hn _ _ _ _ h
  refine ⟨fun h1 => ?_, fun h1 => ?_⟩
  · have h2 := q.1 h1
    rcases (show σ = 0 ∨ σ = 1 ∨ σ = 2 ∨ σ = 3 ∨ σ = 4 by omega) with rfl | rfl | rfl | rfl | rfl
    · cases h2
    · cases h2
    · exact e4.1
    · exact e4.2.1
    · exact e4.2.2
  · have h2 := q.2 h1
    rcases (show σ = 0 ∨ σ = 1 ∨ σ = 2 ∨ σ = 3 ∨ σ = 4 by omega) with rfl | rfl | rfl | rfl | rfl
    · cases h2
    · exact e10.1
    · cases h2
    · exact e10.2.1
    · exact e10.2.2
