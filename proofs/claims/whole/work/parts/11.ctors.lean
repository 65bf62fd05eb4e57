/-! CONSTRUCTORS, one by one (by program: genc.py) -/
theorem AL_sub {k : Kx} {N M : List (Nat × Nat)} {n : Nat} (h : AL k N n) (p m : Nat) (hm : (N.drop p).take m = M) : AL k M (n + p) := by
  subst hm
  intro j q hq
  have h1 : ((N.drop p).take m)[j]? = some q := hq
  rw [List.getElem?_take] at h1
  split at h1
  · rw [List.getElem?_drop] at h1
    rw [h (p + j) q h1]
    omega
  · cases h1
theorem getD_ne {l : List Nat} (h : l.all (fun x => x != 4) = true) (j : Nat) : ¬ l.getD j 0 = 4 := by
  intro e
  by_cases hj : j < l.length
  · have h1 : l.getD j 0 = l[j] := by simp [List.getD, hj]
    rw [h1] at e
    have h2 := List.all_eq_true.mp h _ (List.getElem_mem hj)
    rw [e] at h2
    exact absurd h2 (by decide)
  · have h1 : l.getD j 0 = 0 := by simp [List.getD, List.getElem?_eq_none (Nat.not_lt.mp hj)]
    rw [h1] at e
    exact absurd e (by decide)
/-- a cell of zeros but for some ints -/
def zrs (μ : Mm) (c i : Nat) (us : List (Nat × Int32)) : Mm := us.foldl (fun m p => si m c i p.1 p.2) (zr μ c i)
def fu (us : List (Nat × Int32)) : Nat → Int32 := us.foldl (fun f p => upd f p.1 p.2) (fun _ => 0)
theorem sis_ne {c i c' i' : Nat} (h : ¬ (c' = c ∧ i' = i)) : ∀ (us : List (Nat × Int32)) (μ : Mm), (us.foldl (fun m p => si m c i p.1 p.2) μ).1 c' i' = μ.1 c' i' ∧ (us.foldl (fun m p => si m c i p.1 p.2) μ).2 c' i' = μ.2 c' i'
  | [], μ => ⟨rfl, rfl⟩
  | p :: us, μ => ⟨((sis_ne h us (si μ c i p.1 p.2)).1).trans (mi_ne h), (sis_ne h us (si μ c i p.1 p.2)).2⟩
theorem sis_eq {c i : Nat} : ∀ (us : List (Nat × Int32)) (μ : Mm), (us.foldl (fun m p => si m c i p.1 p.2) μ).1 c i = us.foldl (fun f p => upd f p.1 p.2) (μ.1 c i) ∧ (us.foldl (fun m p => si m c i p.1 p.2) μ).2 c i = μ.2 c i
  | [], μ => ⟨rfl, rfl⟩
  | p :: us, μ => ⟨by
      have h1 := (sis_eq (c := c) (i := i) us (si μ c i p.1 p.2)).1
      rw [mi_eq] at h1
      exact h1, (sis_eq (c := c) (i := i) us (si μ c i p.1 p.2)).2⟩
section CRows3
variable {z : Zx} {k : Kx} {cc : ByteArray} {nL : Nat} {own : String} {h : Nat} {T : Nat × Nat} {E : Ez} {Q : State → Prop} {C : Nat × Nat} {μ' μ : Mm} {pc : Nat} {lv : List (Nat × Value)} {st : List Value} {xs : va_W} {L : List (Nat × Nat)}
theorem c_C {C' : Nat × Nat} (h : C = C') (kk : Gcq z k nL Q C' pc μ xs lv st) : Gcq z k nL Q C pc μ xs lv st := by
  subst h
  exact kk
theorem c_absZ {c i : Nat} {us : List (Nat × Int32)} {fs : List Value} {xs0 : va_W} (hc : c < 20) (hxs : xs = xs0 ++ [(kad k c i, .inr (c, fs))]) (hf : flds k c i (fu us) (fun _ => 0) = fs) (hn : ∀ j, kd c j = 4 → fu us j = 0) (kk : Gcq z (kL k ((c, i) :: L)) nL Q C pc (zrs μ c i us) xs0 lv st) : Gcq z (kL k L) nL Q C pc μ xs lv st := by
  refine c_abs (μ1 := zrs μ c i us) hc hxs (fun c' i' hne => ?_) (fa := fu us) (fb := fun _ => 0) ?_ ?_ hf hn kk
  · have h1 := sis_ne hne us (zr μ c i)
    exact ⟨h1.1.trans (zr_ne hne).1, h1.2.trans (zr_ne hne).2⟩
  · have h1 := (sis_eq (c := c) (i := i) us (zr μ c i)).1
    rw [zr_eq.1] at h1
    exact h1
  · have h1 := (sis_eq (c := c) (i := i) us (zr μ c i)).2
    rw [zr_eq.2] at h1
    exact h1
end CRows3
def fX8_init (F : Nat) (this : Nat) (μ : Mm) : Option (Mm) := bd1 (fX8_clear F this μ) fun μ2 => some (μ2)
def fX10_init_L43 (F : Nat) (K24 : Int32 → Mm → Option (Mm)) : Nat → Int32 → Int32 → Mm → Option (Mm)
  | 0, _, _, _ => none
  | n + 1, v1, v2, μ => if v1 ≤ v2 then (K24 (v1 + 1) μ) else (bd2 (fX10_at F v1 v2 μ) fun r12 μ11 => bd2 (fX10_fewest F v1 v2 μ11) fun r16 μ15 => if inb r12 4950 = true then bd2 (fX10_at F v1 v2 (si μ15 46 0 r12.toNatClampNeg (1 + r16))) fun r22 μ21 => bd2 (fX10_howMany F v1 v2 μ21) fun r26 μ25 => if inb r22 4950 = true then fX10_init_L43 F K24 n v1 (v2 + 1) (si μ25 47 0 r22.toNatClampNeg r26) else none else none)
def fX10_init_L24 (F : Nat) : Nat → Int32 → Mm → Option (Mm)
  | 0, _, _ => none
  | n + 1, v1, μ => if 99 < v1 then (some (μ)) else (bd2 (fX10_at F v1 0 μ) fun r5 μ4 => if inb r5 4950 = true then fX10_init_L43 F (fun v1 μ => fX10_init_L24 F n v1 μ) F v1 1 (si μ4 47 0 r5.toNatClampNeg 1) else none)
def fX10_init (F : Nat) (μ : Mm) : Option (Mm) := fX10_init_L24 F F 1 μ
def fX12_init (F : Nat) (μ : Mm) : Option (Mm) := bd1 (fX12_plain F 0 μ) fun μ2 => bd1 (fX12_plain F 1 μ2) fun μ5 => bd2 (fX12_letters F 115 113 117 97 114 101 0 μ5) fun r10 μ9 => bd2 (fX12_letters F 102 105 103 117 114 101 0 (sj μ9 54 0 0 r10)) fun r15 μ14 => bd2 (fX12_letters F 116 105 114 101 115 0 0 (sj μ14 54 0 1 r15)) fun r20 μ19 => bd2 (fX12_letters F 114 101 115 116 115 0 0 (sj μ19 54 0 2 r20)) fun r25 μ24 => bd2 (fX12_letters F 112 97 121 115 0 0 0 (sj μ24 54 0 3 r25)) fun r30 μ29 => bd2 (fX12_letters F 115 108 105 112 115 0 0 (sj μ29 54 0 4 r30)) fun r35 μ34 => bd2 (fX12_letters F 115 101 101 100 0 0 0 (sj μ34 54 0 5 r35)) fun r40 μ39 => bd2 (fX12_letters F 116 119 105 115 116 0 0 (sj μ39 54 0 6 r40)) fun r45 μ44 => bd2 (fX12_letters F 98 97 99 107 0 0 0 (sj μ44 54 0 7 r45)) fun r50 μ49 => bd2 (fX12_letters F 116 117 114 110 0 0 0 (sj μ49 54 0 8 r50)) fun r55 μ54 => bd2 (fX12_letters F 105 102 0 0 0 0 0 (sj μ54 54 0 9 r55)) fun r60 μ59 => bd2 (fX12_letters F 116 104 101 110 0 0 0 (sj μ59 54 0 10 r60)) fun r65 μ64 => bd2 (fX12_letters F 101 108 115 101 0 0 0 (sj μ64 54 0 11 r65)) fun r70 μ69 => bd2 (fX12_letters F 111 118 101 114 0 0 0 (sj μ69 54 0 12 r70)) fun r75 μ74 => bd2 (fX12_letters F 117 110 100 101 114 0 0 (sj μ74 54 0 13 r75)) fun r80 μ79 => bd2 (fX12_letters F 99 114 111 115 115 0 0 (sj μ79 54 0 14 r80)) fun r85 μ84 => bd2 (fX12_letters F 101 110 100 115 0 0 0 (sj μ84 54 0 15 r85)) fun r90 μ89 => bd2 (fX12_letters F 116 105 114 101 100 0 0 (sj μ89 54 0 16 r90)) fun r95 μ94 => bd2 (fX12_letters F 109 105 110 117 116 101 0 (sj μ94 54 0 17 r95)) fun r100 μ99 => bd2 (fX12_letters F 119 104 105 99 104 0 0 (sj μ99 54 0 18 r100)) fun r105 μ104 => bd2 (fX12_letters F 109 111 118 101 115 0 0 (sj μ104 54 0 19 r105)) fun r110 μ109 => bd2 (fX12_letters F 99 97 108 108 101 100 0 (sj μ109 54 0 20 r110)) fun r115 μ114 => bd1 (fX12_fillsUndoing F (sj μ114 54 0 21 r115)) fun μ118 => bd1 (fX12_begins F μ118) fun μ121 => bd1 (fX12_keepsRow F μ121) fun μ124 => some (μ124)
theorem cs_401 : (Int16.ofInt (401)).toInt32 = 401 := by decide
theorem cs_19900 : (Int16.ofInt (19900)).toInt32 = 19900 := by decide
theorem cs_408 : (Int16.ofInt (408)).toInt32 = 408 := by decide
theorem cs_4950 : (Int16.ofInt (4950)).toInt32 = 4950 := by decide
theorem cs_403 : (Int16.ofInt (403)).toInt32 = 403 := by decide
theorem cs_144 : (Int16.ofInt (144)).toInt32 = 144 := by decide
theorem cs_260 : (Int16.ofInt (260)).toInt32 = 260 := by decide
theorem cs_840 : (Int16.ofInt (840)).toInt32 = 840 := by decide
theorem cb_64 : (Int8.ofInt (64)).toInt32 = 64 := by decide
theorem cs_560 : (Int16.ofInt (560)).toInt32 = 560 := by decide
theorem cb_115 : (Int8.ofInt (115)).toInt32 = 115 := by decide
theorem cb_113 : (Int8.ofInt (113)).toInt32 = 113 := by decide
theorem cb_117 : (Int8.ofInt (117)).toInt32 = 117 := by decide
theorem cb_114 : (Int8.ofInt (114)).toInt32 = 114 := by decide
theorem cb_102 : (Int8.ofInt (102)).toInt32 = 102 := by decide
theorem cb_105 : (Int8.ofInt (105)).toInt32 = 105 := by decide
theorem cb_103 : (Int8.ofInt (103)).toInt32 = 103 := by decide
theorem cb_116 : (Int8.ofInt (116)).toInt32 = 116 := by decide
theorem cb_112 : (Int8.ofInt (112)).toInt32 = 112 := by decide
theorem cb_121 : (Int8.ofInt (121)).toInt32 = 121 := by decide
theorem cb_108 : (Int8.ofInt (108)).toInt32 = 108 := by decide
theorem cb_119 : (Int8.ofInt (119)).toInt32 = 119 := by decide
theorem cb_98 : (Int8.ofInt (98)).toInt32 = 98 := by decide
theorem cb_107 : (Int8.ofInt (107)).toInt32 = 107 := by decide
theorem cb_110 : (Int8.ofInt (110)).toInt32 = 110 := by decide
theorem cb_104 : (Int8.ofInt (104)).toInt32 = 104 := by decide
theorem cb_111 : (Int8.ofInt (111)).toInt32 = 111 := by decide
theorem cb_118 : (Int8.ofInt (118)).toInt32 = 118 := by decide
theorem ti_14 : (14 : Int32).toNatClampNeg = 14 := by decide
theorem ti_15 : (15 : Int32).toNatClampNeg = 15 := by decide
theorem cb_109 : (Int8.ofInt (109)).toInt32 = 109 := by decide
theorem ti_18 : (18 : Int32).toNatClampNeg = 18 := by decide
theorem cb_19 : (Int8.ofInt (19)).toInt32 = 19 := by decide
theorem ti_19 : (19 : Int32).toNatClampNeg = 19 := by decide
theorem ti_20 : (20 : Int32).toNatClampNeg = 20 := by decide
theorem ti_21 : (21 : Int32).toNatClampNeg = 21 := by decide
theorem wk_X6_init : Cond.code ({ cls := "RopeDance$Table", name := "<init>", desc := "()V" } : Jvm.MethodName) prog_8_method_1_code (1 : Nat) (Option.none : Option Jvm.ClassFile.FieldType) ∈ lw_g := xg (xin_1 (List.mem_of_getElem? (i := 94) rfl)) rfl
theorem MK_X6_init : MK yX6_init bX6_init 1 none 0 := ⟨wn_X6, wk_X6_init, ⟨by decide, by decide, by decide +kernel⟩, by decide⟩
theorem wi_X6_init : Cond.instanceMethod ({ cls := "RopeDance$Table", name := "<init>", desc := "()V" } : Jvm.MethodName) ∈ lw_g := xg (xin_1 (List.mem_of_getElem? (i := 93) rfl)) rfl
theorem wm_X3_9 : Cond.methodLink "RopeDance$Row" (9 : Nat) ({ cls := "RopeDance$Table", name := "<init>", desc := "()V" } : Jvm.MethodName) ∈ lw_g := xg (xin_1 (List.mem_of_getElem? (i := 92) rfl)) rfl
theorem wk_X5_init : Cond.code ({ cls := "RopeDance$Square", name := "<init>", desc := "()V" } : Jvm.MethodName) prog_7_method_1_code (1 : Nat) (Option.none : Option Jvm.ClassFile.FieldType) ∈ lw_g := xg (xin_1 (List.mem_of_getElem? (i := 134) rfl)) rfl
theorem MK_X5_init : MK yX5_init bX5_init 1 none 0 := ⟨wn_X5, wk_X5_init, ⟨by decide, by decide, by decide +kernel⟩, by decide⟩
theorem wi_X5_init : Cond.instanceMethod ({ cls := "RopeDance$Square", name := "<init>", desc := "()V" } : Jvm.MethodName) ∈ lw_g := xg (xin_1 (List.mem_of_getElem? (i := 133) rfl)) rfl
theorem wm_X0_17 : Cond.methodLink "RopeDance$Evening" (17 : Nat) ({ cls := "RopeDance$Square", name := "<init>", desc := "()V" } : Jvm.MethodName) ∈ lw_g := xg (xin_2 (List.mem_of_getElem? (i := 42) rfl)) rfl
theorem wm_X9_24 : Cond.methodLink "RopeDance$Told" (24 : Nat) ({ cls := "RopeDance$Square", name := "<init>", desc := "()V" } : Jvm.MethodName) ∈ lw_g := xg (xin_2 (List.mem_of_getElem? (i := 89) rfl)) rfl
theorem wm_X4_22 : Cond.methodLink "RopeDance$Search" (22 : Nat) ({ cls := "RopeDance$Square", name := "<init>", desc := "()V" } : Jvm.MethodName) ∈ lw_g := xg (xin_4 (List.mem_of_getElem? (i := 230) rfl)) rfl
theorem wm_X2_25 : Cond.methodLink "RopeDance$Reader" (25 : Nat) ({ cls := "RopeDance$Square", name := "<init>", desc := "()V" } : Jvm.MethodName) ∈ lw_g := xg (xin_2 (List.mem_of_getElem? (i := 0) rfl)) rfl
theorem wk_X3_init : Cond.code ({ cls := "RopeDance$Row", name := "<init>", desc := "()V" } : Jvm.MethodName) prog_5_method_1_code (1 : Nat) (Option.none : Option Jvm.ClassFile.FieldType) ∈ lw_g := xg (xin_1 (List.mem_of_getElem? (i := 88) rfl)) rfl
theorem MK_X3_init : MK yX3_init bX3_init 1 none 0 := ⟨wn_X3, wk_X3_init, ⟨by decide, by decide, by decide +kernel⟩, by decide⟩
theorem wi_X3_init : Cond.instanceMethod ({ cls := "RopeDance$Row", name := "<init>", desc := "()V" } : Jvm.MethodName) ∈ lw_g := xg (xin_1 (List.mem_of_getElem? (i := 87) rfl)) rfl
theorem wm_X8_15 : Cond.methodLink "RopeDance$Text" (15 : Nat) ({ cls := "RopeDance$Row", name := "<init>", desc := "()V" } : Jvm.MethodName) ∈ lw_g := xg (xin_1 (List.mem_of_getElem? (i := 86) rfl)) rfl
theorem wm_X8_43 : Cond.methodLink "RopeDance$Text" (43 : Nat) ({ cls := "RopeDance$Square", name := "<init>", desc := "()V" } : Jvm.MethodName) ∈ lw_g := xg (xin_1 (List.mem_of_getElem? (i := 132) rfl)) rfl
theorem wk_X7_init : Cond.code ({ cls := "RopeDance$Tape", name := "<init>", desc := "()V" } : Jvm.MethodName) prog_9_method_1_code (1 : Nat) (Option.none : Option Jvm.ClassFile.FieldType) ∈ lw_g := xg (xin_1 (List.mem_of_getElem? (i := 32) rfl)) rfl
theorem MK_X7_init : MK yX7_init bX7_init 1 none 0 := ⟨wn_X7, wk_X7_init, ⟨by decide, by decide, by decide +kernel⟩, by decide⟩
theorem wi_X7_init : Cond.instanceMethod ({ cls := "RopeDance$Tape", name := "<init>", desc := "()V" } : Jvm.MethodName) ∈ lw_g := xg (xin_1 (List.mem_of_getElem? (i := 31) rfl)) rfl
theorem wm_X11_9 : Cond.methodLink "RopeDance" (9 : Nat) ({ cls := "RopeDance$Tape", name := "<init>", desc := "()V" } : Jvm.MethodName) ∈ lw_g := xg (xin_1 (List.mem_of_getElem? (i := 30) rfl)) rfl
theorem wk_X8_init : Cond.code ({ cls := "RopeDance$Text", name := "<init>", desc := "()V" } : Jvm.MethodName) prog_10_method_1_code (2 : Nat) (Option.none : Option Jvm.ClassFile.FieldType) ∈ lw_g := xg (xin_1 (List.mem_of_getElem? (i := 81) rfl)) rfl
theorem MK_X8_init : MK yX8_init bX8_init 2 none 0 := ⟨wn_X8, wk_X8_init, ⟨by decide, by decide, by decide +kernel⟩, by decide⟩
theorem wi_X8_init : Cond.instanceMethod ({ cls := "RopeDance$Text", name := "<init>", desc := "()V" } : Jvm.MethodName) ∈ lw_g := xg (xin_1 (List.mem_of_getElem? (i := 80) rfl)) rfl
theorem wm_X11_18 : Cond.methodLink "RopeDance" (18 : Nat) ({ cls := "RopeDance$Text", name := "<init>", desc := "()V" } : Jvm.MethodName) ∈ lw_g := xg (xin_1 (List.mem_of_getElem? (i := 79) rfl)) rfl
theorem wk_X2_init : Cond.code ({ cls := "RopeDance$Reader", name := "<init>", desc := "(LRopeDance$Tape;LRopeDance$Text;)V" } : Jvm.MethodName) prog_4_method_1_code (3 : Nat) (Option.none : Option Jvm.ClassFile.FieldType) ∈ lw_g := xg (xin_1 (List.mem_of_getElem? (i := 237) rfl)) rfl
theorem MK_X2_init : MK yX2_init bX2_init 3 none 2 := ⟨wn_X2, wk_X2_init, ⟨by decide, by decide, by decide +kernel⟩, by decide⟩
theorem wi_X2_init : Cond.instanceMethod ({ cls := "RopeDance$Reader", name := "<init>", desc := "(LRopeDance$Tape;LRopeDance$Text;)V" } : Jvm.MethodName) ∈ lw_g := xg (xin_1 (List.mem_of_getElem? (i := 236) rfl)) rfl
theorem wm_X11_28 : Cond.methodLink "RopeDance" (28 : Nat) ({ cls := "RopeDance$Reader", name := "<init>", desc := "(LRopeDance$Tape;LRopeDance$Text;)V" } : Jvm.MethodName) ∈ lw_g := xg (xin_1 (List.mem_of_getElem? (i := 235) rfl)) rfl
theorem wk_X0_init : Cond.code ({ cls := "RopeDance$Evening", name := "<init>", desc := "()V" } : Jvm.MethodName) prog_2_method_1_code (2 : Nat) (Option.none : Option Jvm.ClassFile.FieldType) ∈ lw_g := xg (xin_2 (List.mem_of_getElem? (i := 38) rfl)) rfl
theorem MK_X0_init : MK yX0_init bX0_init 2 none 0 := ⟨wn_X0, wk_X0_init, ⟨by decide, by decide, by decide +kernel⟩, by decide⟩
theorem wi_X0_init : Cond.instanceMethod ({ cls := "RopeDance$Evening", name := "<init>", desc := "()V" } : Jvm.MethodName) ∈ lw_g := xg (xin_2 (List.mem_of_getElem? (i := 37) rfl)) rfl
theorem wm_X11_37 : Cond.methodLink "RopeDance" (37 : Nat) ({ cls := "RopeDance$Evening", name := "<init>", desc := "()V" } : Jvm.MethodName) ∈ lw_g := xg (xin_2 (List.mem_of_getElem? (i := 36) rfl)) rfl
theorem wk_X1_init : Cond.code ({ cls := "RopeDance$Memory", name := "<init>", desc := "()V" } : Jvm.MethodName) prog_3_method_1_code (1 : Nat) (Option.none : Option Jvm.ClassFile.FieldType) ∈ lw_g := xg (xin_2 (List.mem_of_getElem? (i := 60) rfl)) rfl
theorem MK_X1_init : MK yX1_init bX1_init 1 none 0 := ⟨wn_X1, wk_X1_init, ⟨by decide, by decide, by decide +kernel⟩, by decide⟩
theorem wi_X1_init : Cond.instanceMethod ({ cls := "RopeDance$Memory", name := "<init>", desc := "()V" } : Jvm.MethodName) ∈ lw_g := xg (xin_2 (List.mem_of_getElem? (i := 59) rfl)) rfl
theorem wm_X11_44 : Cond.methodLink "RopeDance" (44 : Nat) ({ cls := "RopeDance$Memory", name := "<init>", desc := "()V" } : Jvm.MethodName) ∈ lw_g := xg (xin_2 (List.mem_of_getElem? (i := 58) rfl)) rfl
theorem wk_X9_init : Cond.code ({ cls := "RopeDance$Told", name := "<init>", desc := "()V" } : Jvm.MethodName) prog_11_method_1_code (1 : Nat) (Option.none : Option Jvm.ClassFile.FieldType) ∈ lw_g := xg (xin_2 (List.mem_of_getElem? (i := 86) rfl)) rfl
theorem MK_X9_init : MK yX9_init bX9_init 1 none 0 := ⟨wn_X9, wk_X9_init, ⟨by decide, by decide, by decide +kernel⟩, by decide⟩
theorem wi_X9_init : Cond.instanceMethod ({ cls := "RopeDance$Told", name := "<init>", desc := "()V" } : Jvm.MethodName) ∈ lw_g := xg (xin_2 (List.mem_of_getElem? (i := 85) rfl)) rfl
theorem wm_X11_51 : Cond.methodLink "RopeDance" (51 : Nat) ({ cls := "RopeDance$Told", name := "<init>", desc := "()V" } : Jvm.MethodName) ∈ lw_g := xg (xin_2 (List.mem_of_getElem? (i := 84) rfl)) rfl
theorem wm_X11_58 : Cond.methodLink "RopeDance" (58 : Nat) ({ cls := "RopeDance$Square", name := "<init>", desc := "()V" } : Jvm.MethodName) ∈ lw_g := xg (xin_2 (List.mem_of_getElem? (i := 122) rfl)) rfl
theorem wm_X11_65 : Cond.methodLink "RopeDance" (65 : Nat) ({ cls := "RopeDance$Table", name := "<init>", desc := "()V" } : Jvm.MethodName) ∈ lw_g := xg (xin_2 (List.mem_of_getElem? (i := 124) rfl)) rfl
theorem wm_X8_48 : Cond.methodLink "RopeDance$Text" (48 : Nat) ({ cls := "RopeDance$Text", name := "clear", desc := "()V" } : Jvm.MethodName) ∈ lw_g := xg (xin_1 (List.mem_of_getElem? (i := 165) rfl)) rfl
theorem wm_X10_24 : Cond.methodLink "RopeDance$Unwinding" (24 : Nat) ({ cls := "RopeDance$Unwinding", name := "fewest", desc := "(II)I" } : Jvm.MethodName) ∈ lw_g := xg (xin_4 (List.mem_of_getElem? (i := 169) rfl)) rfl
theorem wm_X10_27 : Cond.methodLink "RopeDance$Unwinding" (27 : Nat) ({ cls := "RopeDance$Unwinding", name := "howMany", desc := "(II)I" } : Jvm.MethodName) ∈ lw_g := xg (xin_4 (List.mem_of_getElem? (i := 175) rfl)) rfl
theorem wk_X12_letters : Cond.code ({ cls := "RopeDanceModel", name := "letters", desc := "(IIIIIII)J" } : Jvm.MethodName) prog_14_method_10_code (7 : Nat) (Option.some Jvm.ClassFile.FieldType.long) ∈ lw_g := xg (xin_6 (List.mem_of_getElem? (i := 27) rfl)) rfl
theorem MK_X12_letters : MK yX12_letters bX12_letters 7 (some .long) 7 := ⟨wn_X12, wk_X12_letters, ⟨by decide, by decide, by decide +kernel⟩, by decide⟩
theorem ws_X12_letters : Cond.static ({ cls := "RopeDanceModel", name := "letters", desc := "(IIIIIII)J" } : Jvm.MethodName) ∈ lw_g := xg (xin_6 (List.mem_of_getElem? (i := 26) rfl)) rfl
theorem wm_X12_156 : Cond.methodLink "RopeDanceModel" (156 : Nat) ({ cls := "RopeDanceModel", name := "letters", desc := "(IIIIIII)J" } : Jvm.MethodName) ∈ lw_g := xg (xin_6 (List.mem_of_getElem? (i := 25) rfl)) rfl
theorem wk_X12_fillsUndoing : Cond.code ({ cls := "RopeDanceModel", name := "fillsUndoing", desc := "()V" } : Jvm.MethodName) prog_14_method_69_code (3 : Nat) (Option.none : Option Jvm.ClassFile.FieldType) ∈ lw_g := xg (xin_6 (List.mem_of_getElem? (i := 35) rfl)) rfl
theorem MK_X12_fillsUndoing : MK yX12_fillsUndoing bX12_fillsUndoing 3 none 0 := ⟨wn_X12, wk_X12_fillsUndoing, ⟨by decide, by decide, by decide +kernel⟩, by decide⟩
theorem wi_X12_fillsUndoing : Cond.instanceMethod ({ cls := "RopeDanceModel", name := "fillsUndoing", desc := "()V" } : Jvm.MethodName) ∈ lw_g := xg (xin_6 (List.mem_of_getElem? (i := 34) rfl)) rfl
theorem we_X12_fillsUndoing : Cond.selects "RopeDanceModel" yX12_fillsUndoing yX12_fillsUndoing ∈ lw_g := xg (xip_3 (List.mem_of_getElem? (i := 11) rfl)) rfl
theorem wm_X12_160 : Cond.methodLink "RopeDanceModel" (160 : Nat) ({ cls := "RopeDanceModel", name := "fillsUndoing", desc := "()V" } : Jvm.MethodName) ∈ lw_g := xg (xin_6 (List.mem_of_getElem? (i := 32) rfl)) rfl
theorem dX5_init_0 : decode bX5_init 0 = .ok (.aload_n 0, 1) := by decide +kernel
theorem dX5_init_1 : decode bX5_init 1 = .ok (.invokespecial 1, 3) := by decide +kernel
theorem woi_X5 : Cond.methodLink "RopeDance$Square" 1 Lib.objectInit ∈ lw_g := xg (xin_1 (List.mem_of_getElem? (i := 135) rfl)) rfl
theorem woin : Cond.instanceMethod Lib.objectInit ∈ lw_g := xg (xin_1 (List.mem_of_getElem? (i := 26) rfl)) rfl
theorem woic : Cond.code Lib.objectInit ⟨#[0xb1]⟩ 1 none ∈ lw_g := xg (xin_1 (List.mem_of_getElem? (i := 27) rfl)) rfl
theorem dX5_init_4 : decode bX5_init 4 = .ok (.aload_n 0, 1) := by decide +kernel
theorem dX5_init_5 : decode bX5_init 5 = .ok (.iconst 1, 1) := by decide +kernel
theorem dX5_init_6 : decode bX5_init 6 = .ok (.putfield 7, 3) := by decide +kernel
theorem dX5_init_9 : decode bX5_init 9 = .ok (.return_, 1) := by decide +kernel
theorem dX6_init_0 : decode bX6_init 0 = .ok (.aload_n 0, 1) := by decide +kernel
theorem dX6_init_1 : decode bX6_init 1 = .ok (.invokespecial 1, 3) := by decide +kernel
theorem woi_X6 : Cond.methodLink "RopeDance$Table" 1 Lib.objectInit ∈ lw_g := xg (xin_1 (List.mem_of_getElem? (i := 95) rfl)) rfl
theorem dX6_init_4 : decode bX6_init 4 = .ok (.aload_n 0, 1) := by decide +kernel
theorem dX6_init_5 : decode bX6_init 5 = .ok (.iconst 1, 1) := by decide +kernel
theorem dX6_init_6 : decode bX6_init 6 = .ok (.putfield 7, 3) := by decide +kernel
theorem dX6_init_9 : decode bX6_init 9 = .ok (.aload_n 0, 1) := by decide +kernel
theorem dX6_init_10 : decode bX6_init 10 = .ok (.iconst 1, 1) := by decide +kernel
theorem dX6_init_11 : decode bX6_init 11 = .ok (.putfield 13, 3) := by decide +kernel
theorem dX6_init_14 : decode bX6_init 14 = .ok (.return_, 1) := by decide +kernel
theorem dX3_init_0 : decode bX3_init 0 = .ok (.aload_n 0, 1) := by decide +kernel
theorem dX3_init_1 : decode bX3_init 1 = .ok (.invokespecial 1, 3) := by decide +kernel
theorem woi_X3 : Cond.methodLink "RopeDance$Row" 1 Lib.objectInit ∈ lw_g := xg (xin_1 (List.mem_of_getElem? (i := 89) rfl)) rfl
theorem dX3_init_4 : decode bX3_init 4 = .ok (.aload_n 0, 1) := by decide +kernel
theorem dX3_init_5 : decode bX3_init 5 = .ok (.new 7, 3) := by decide +kernel
theorem wcl_X3_7 : Cond.classLink "RopeDance$Row" 7 "RopeDance$Table" ∈ lw_g := xg (xin_1 (List.mem_of_getElem? (i := 90) rfl)) rfl
theorem win_X6 : Cond.instantiable "RopeDance$Table" 4 ∈ lw_g := xg (xin_1 (List.mem_of_getElem? (i := 91) rfl)) rfl
theorem dX3_init_8 : decode bX3_init 8 = .ok (.dup, 1) := by decide +kernel
theorem dX3_init_9 : decode bX3_init 9 = .ok (.invokespecial 9, 3) := by decide +kernel
theorem dX3_init_12 : decode bX3_init 12 = .ok (.putfield 10, 3) := by decide +kernel
theorem dX3_init_15 : decode bX3_init 15 = .ok (.aload_n 0, 1) := by decide +kernel
theorem dX3_init_16 : decode bX3_init 16 = .ok (.bipush 8, 2) := by decide +kernel
theorem dX3_init_18 : decode bX3_init 18 = .ok (.newarray .int, 2) := by decide +kernel
theorem wac_int : Cond.arrayClass .int ∈ lw_g := xg (xin_1 (List.mem_of_getElem? (i := 75) rfl)) rfl
theorem dX3_init_20 : decode bX3_init 20 = .ok (.putfield 16, 3) := by decide +kernel
theorem dX3_init_23 : decode bX3_init 23 = .ok (.aload_n 0, 1) := by decide +kernel
theorem dX3_init_24 : decode bX3_init 24 = .ok (.bipush 8, 2) := by decide +kernel
theorem dX3_init_26 : decode bX3_init 26 = .ok (.newarray .int, 2) := by decide +kernel
theorem dX3_init_28 : decode bX3_init 28 = .ok (.putfield 20, 3) := by decide +kernel
theorem dX3_init_31 : decode bX3_init 31 = .ok (.return_, 1) := by decide +kernel
theorem dX0_init_0 : decode bX0_init 0 = .ok (.aload_n 0, 1) := by decide +kernel
theorem dX0_init_1 : decode bX0_init 1 = .ok (.invokespecial 3, 3) := by decide +kernel
theorem woi_X0 : Cond.methodLink "RopeDance$Evening" 3 Lib.objectInit ∈ lw_g := xg (xin_2 (List.mem_of_getElem? (i := 39) rfl)) rfl
theorem dX0_init_4 : decode bX0_init 4 = .ok (.aload_n 0, 1) := by decide +kernel
theorem dX0_init_5 : decode bX0_init 5 = .ok (.iconst 4, 1) := by decide +kernel
theorem dX0_init_6 : decode bX0_init 6 = .ok (.anewarray 9, 3) := by decide +kernel
theorem wcl_X0_9 : Cond.classLink "RopeDance$Evening" 9 "RopeDance$Square" ∈ lw_g := xg (xin_2 (List.mem_of_getElem? (i := 40) rfl)) rfl
theorem dX0_init_9 : decode bX0_init 9 = .ok (.putfield 11, 3) := by decide +kernel
theorem dX0_init_12 : decode bX0_init 12 = .ok (.iconst 0, 1) := by decide +kernel
theorem dX0_init_13 : decode bX0_init 13 = .ok (.istore_n 1, 1) := by decide +kernel
theorem dX0_init_14 : decode bX0_init 14 = .ok (.iload_n 1, 1) := by decide +kernel
theorem dX0_init_15 : decode bX0_init 15 = .ok (.iconst 4, 1) := by decide +kernel
theorem dX0_init_16 : decode bX0_init 16 = .ok (.if_icmp .ge 22, 3) := by decide +kernel
theorem dX0_init_19 : decode bX0_init 19 = .ok (.aload_n 0, 1) := by decide +kernel
theorem dX0_init_20 : decode bX0_init 20 = .ok (.getfield 11, 3) := by decide +kernel
theorem dX0_init_23 : decode bX0_init 23 = .ok (.iload_n 1, 1) := by decide +kernel
theorem dX0_init_24 : decode bX0_init 24 = .ok (.new 9, 3) := by decide +kernel
theorem win_X5 : Cond.instantiable "RopeDance$Square" 4 ∈ lw_g := xg (xin_1 (List.mem_of_getElem? (i := 131) rfl)) rfl
theorem dX0_init_27 : decode bX0_init 27 = .ok (.dup, 1) := by decide +kernel
theorem dX0_init_28 : decode bX0_init 28 = .ok (.invokespecial 17, 3) := by decide +kernel
theorem dX0_init_31 : decode bX0_init 31 = .ok (.aastore, 1) := by decide +kernel
theorem dX0_init_32 : decode bX0_init 32 = .ok (.iinc 1 1, 3) := by decide +kernel
theorem dX0_init_35 : decode bX0_init 35 = .ok (.goto (-21), 3) := by decide +kernel
theorem dX0_init_38 : decode bX0_init 38 = .ok (.return_, 1) := by decide +kernel
theorem dX1_init_0 : decode bX1_init 0 = .ok (.aload_n 0, 1) := by decide +kernel
theorem dX1_init_1 : decode bX1_init 1 = .ok (.invokespecial 1, 3) := by decide +kernel
theorem woi_X1 : Cond.methodLink "RopeDance$Memory" 1 Lib.objectInit ∈ lw_g := xg (xin_2 (List.mem_of_getElem? (i := 61) rfl)) rfl
theorem dX1_init_4 : decode bX1_init 4 = .ok (.aload_n 0, 1) := by decide +kernel
theorem dX1_init_5 : decode bX1_init 5 = .ok (.bipush 40, 2) := by decide +kernel
theorem dX1_init_7 : decode bX1_init 7 = .ok (.bipush 18, 2) := by decide +kernel
theorem dX1_init_9 : decode bX1_init 9 = .ok (.multianewarray 11 2, 4) := by decide +kernel
theorem wcl_X1_11 : Cond.classLink "RopeDance$Memory" 11 "[[I" ∈ lw_g := xg (xin_2 (List.mem_of_getElem? (i := 62) rfl)) rfl
theorem dX1_init_13 : decode bX1_init 13 = .ok (.putfield 13, 3) := by decide +kernel
theorem dX1_init_16 : decode bX1_init 16 = .ok (.aload_n 0, 1) := by decide +kernel
theorem dX1_init_17 : decode bX1_init 17 = .ok (.iconst 3, 1) := by decide +kernel
theorem dX1_init_18 : decode bX1_init 18 = .ok (.bipush 18, 2) := by decide +kernel
theorem dX1_init_20 : decode bX1_init 20 = .ok (.multianewarray 11 2, 4) := by decide +kernel
theorem dX1_init_24 : decode bX1_init 24 = .ok (.putfield 16, 3) := by decide +kernel
theorem dX1_init_27 : decode bX1_init 27 = .ok (.aload_n 0, 1) := by decide +kernel
theorem dX1_init_28 : decode bX1_init 28 = .ok (.iconst 3, 1) := by decide +kernel
theorem dX1_init_29 : decode bX1_init 29 = .ok (.newarray .boolean, 2) := by decide +kernel
theorem wac_boolean : Cond.arrayClass .boolean ∈ lw_g := xg (xin_2 (List.mem_of_getElem? (i := 81) rfl)) rfl
theorem dX1_init_31 : decode bX1_init 31 = .ok (.putfield 19, 3) := by decide +kernel
theorem dX1_init_34 : decode bX1_init 34 = .ok (.return_, 1) := by decide +kernel
theorem dX7_init_0 : decode bX7_init 0 = .ok (.aload_n 0, 1) := by decide +kernel
theorem dX7_init_1 : decode bX7_init 1 = .ok (.invokespecial 1, 3) := by decide +kernel
theorem woi_X7 : Cond.methodLink "RopeDance$Tape" 1 Lib.objectInit ∈ lw_g := xg (xin_1 (List.mem_of_getElem? (i := 33) rfl)) rfl
theorem dX7_init_4 : decode bX7_init 4 = .ok (.aload_n 0, 1) := by decide +kernel
theorem dX7_init_5 : decode bX7_init 5 = .ok (.sipush 2000, 3) := by decide +kernel
theorem dX7_init_8 : decode bX7_init 8 = .ok (.newarray .byte, 2) := by decide +kernel
theorem wac_byte : Cond.arrayClass .byte ∈ lw_g := xg (xin_1 (List.mem_of_getElem? (i := 74) rfl)) rfl
theorem dX7_init_10 : decode bX7_init 10 = .ok (.putfield 9, 3) := by decide +kernel
theorem dX7_init_13 : decode bX7_init 13 = .ok (.aload_n 0, 1) := by decide +kernel
theorem dX7_init_14 : decode bX7_init 14 = .ok (.sipush 401, 3) := by decide +kernel
theorem dX7_init_17 : decode bX7_init 17 = .ok (.newarray .int, 2) := by decide +kernel
theorem dX7_init_19 : decode bX7_init 19 = .ok (.putfield 13, 3) := by decide +kernel
theorem dX7_init_22 : decode bX7_init 22 = .ok (.aload_n 0, 1) := by decide +kernel
theorem dX7_init_23 : decode bX7_init 23 = .ok (.sipush 401, 3) := by decide +kernel
theorem dX7_init_26 : decode bX7_init 26 = .ok (.newarray .int, 2) := by decide +kernel
theorem dX7_init_28 : decode bX7_init 28 = .ok (.putfield 17, 3) := by decide +kernel
theorem dX7_init_31 : decode bX7_init 31 = .ok (.aload_n 0, 1) := by decide +kernel
theorem dX7_init_32 : decode bX7_init 32 = .ok (.sipush 401, 3) := by decide +kernel
theorem dX7_init_35 : decode bX7_init 35 = .ok (.newarray .int, 2) := by decide +kernel
theorem dX7_init_37 : decode bX7_init 37 = .ok (.putfield 20, 3) := by decide +kernel
theorem dX7_init_40 : decode bX7_init 40 = .ok (.aload_n 0, 1) := by decide +kernel
theorem dX7_init_41 : decode bX7_init 41 = .ok (.sipush 401, 3) := by decide +kernel
theorem dX7_init_44 : decode bX7_init 44 = .ok (.newarray .long, 2) := by decide +kernel
theorem wac_long : Cond.arrayClass .long ∈ lw_g := xg (xin_1 (List.mem_of_getElem? (i := 76) rfl)) rfl
theorem dX7_init_46 : decode bX7_init 46 = .ok (.putfield 23, 3) := by decide +kernel
theorem dX7_init_49 : decode bX7_init 49 = .ok (.return_, 1) := by decide +kernel
theorem dX9_init_0 : decode bX9_init 0 = .ok (.aload_n 0, 1) := by decide +kernel
theorem dX9_init_1 : decode bX9_init 1 = .ok (.invokespecial 3, 3) := by decide +kernel
theorem woi_X9 : Cond.methodLink "RopeDance$Told" 3 Lib.objectInit ∈ lw_g := xg (xin_2 (List.mem_of_getElem? (i := 87) rfl)) rfl
theorem dX9_init_4 : decode bX9_init 4 = .ok (.aload_n 0, 1) := by decide +kernel
theorem dX9_init_5 : decode bX9_init 5 = .ok (.bipush 20, 2) := by decide +kernel
theorem dX9_init_7 : decode bX9_init 7 = .ok (.newarray .int, 2) := by decide +kernel
theorem dX9_init_9 : decode bX9_init 9 = .ok (.putfield 11, 3) := by decide +kernel
theorem dX9_init_12 : decode bX9_init 12 = .ok (.aload_n 0, 1) := by decide +kernel
theorem dX9_init_13 : decode bX9_init 13 = .ok (.bipush 20, 2) := by decide +kernel
theorem dX9_init_15 : decode bX9_init 15 = .ok (.newarray .int, 2) := by decide +kernel
theorem dX9_init_17 : decode bX9_init 17 = .ok (.putfield 15, 3) := by decide +kernel
theorem dX9_init_20 : decode bX9_init 20 = .ok (.aload_n 0, 1) := by decide +kernel
theorem dX9_init_21 : decode bX9_init 21 = .ok (.bipush 20, 2) := by decide +kernel
theorem dX9_init_23 : decode bX9_init 23 = .ok (.newarray .boolean, 2) := by decide +kernel
theorem dX9_init_25 : decode bX9_init 25 = .ok (.putfield 18, 3) := by decide +kernel
theorem dX9_init_28 : decode bX9_init 28 = .ok (.aload_n 0, 1) := by decide +kernel
theorem dX9_init_29 : decode bX9_init 29 = .ok (.new 22, 3) := by decide +kernel
theorem wcl_X9_22 : Cond.classLink "RopeDance$Told" 22 "RopeDance$Square" ∈ lw_g := xg (xin_2 (List.mem_of_getElem? (i := 88) rfl)) rfl
theorem dX9_init_32 : decode bX9_init 32 = .ok (.dup, 1) := by decide +kernel
theorem dX9_init_33 : decode bX9_init 33 = .ok (.invokespecial 24, 3) := by decide +kernel
theorem dX9_init_36 : decode bX9_init 36 = .ok (.putfield 25, 3) := by decide +kernel
theorem dX9_init_39 : decode bX9_init 39 = .ok (.aload_n 0, 1) := by decide +kernel
theorem dX9_init_40 : decode bX9_init 40 = .ok (.iconst 4, 1) := by decide +kernel
theorem dX9_init_41 : decode bX9_init 41 = .ok (.newarray .int, 2) := by decide +kernel
theorem dX9_init_43 : decode bX9_init 43 = .ok (.putfield 29, 3) := by decide +kernel
theorem dX9_init_46 : decode bX9_init 46 = .ok (.aload_n 0, 1) := by decide +kernel
theorem dX9_init_47 : decode bX9_init 47 = .ok (.bipush 12, 2) := by decide +kernel
theorem dX9_init_49 : decode bX9_init 49 = .ok (.newarray .int, 2) := by decide +kernel
theorem dX9_init_51 : decode bX9_init 51 = .ok (.putfield 32, 3) := by decide +kernel
theorem dX9_init_54 : decode bX9_init 54 = .ok (.return_, 1) := by decide +kernel
theorem dX4_init_0 : decode bX4_init 0 = .ok (.aload_n 0, 1) := by decide +kernel
theorem dX4_init_1 : decode bX4_init 1 = .ok (.invokespecial 5, 3) := by decide +kernel
theorem woi_X4 : Cond.methodLink "RopeDance$Search" 5 Lib.objectInit ∈ lw_g := xg (xin_4 (List.mem_of_getElem? (i := 228) rfl)) rfl
theorem dX4_init_4 : decode bX4_init 4 = .ok (.aload_n 0, 1) := by decide +kernel
theorem dX4_init_5 : decode bX4_init 5 = .ok (.sipush 12016, 3) := by decide +kernel
theorem dX4_init_8 : decode bX4_init 8 = .ok (.newarray .int, 2) := by decide +kernel
theorem dX4_init_10 : decode bX4_init 10 = .ok (.putfield 13, 3) := by decide +kernel
theorem dX4_init_13 : decode bX4_init 13 = .ok (.aload_n 0, 1) := by decide +kernel
theorem dX4_init_14 : decode bX4_init 14 = .ok (.sipush 19900, 3) := by decide +kernel
theorem dX4_init_17 : decode bX4_init 17 = .ok (.newarray .int, 2) := by decide +kernel
theorem dX4_init_19 : decode bX4_init 19 = .ok (.putfield 19, 3) := by decide +kernel
theorem dX4_init_22 : decode bX4_init 22 = .ok (.aload_n 0, 1) := by decide +kernel
theorem dX4_init_23 : decode bX4_init 23 = .ok (.new 1, 3) := by decide +kernel
theorem wcl_X4_1 : Cond.classLink "RopeDance$Search" 1 "RopeDance$Square" ∈ lw_g := xg (xin_4 (List.mem_of_getElem? (i := 229) rfl)) rfl
theorem dX4_init_26 : decode bX4_init 26 = .ok (.dup, 1) := by decide +kernel
theorem dX4_init_27 : decode bX4_init 27 = .ok (.invokespecial 22, 3) := by decide +kernel
theorem dX4_init_30 : decode bX4_init 30 = .ok (.putfield 23, 3) := by decide +kernel
theorem dX4_init_33 : decode bX4_init 33 = .ok (.aload_n 0, 1) := by decide +kernel
theorem dX4_init_34 : decode bX4_init 34 = .ok (.iconst (-1), 1) := by decide +kernel
theorem dX4_init_35 : decode bX4_init 35 = .ok (.putfield 27, 3) := by decide +kernel
theorem dX4_init_38 : decode bX4_init 38 = .ok (.return_, 1) := by decide +kernel
theorem dX2_init_0 : decode bX2_init 0 = .ok (.aload_n 0, 1) := by decide +kernel
theorem dX2_init_1 : decode bX2_init 1 = .ok (.invokespecial 3, 3) := by decide +kernel
theorem woi_X2 : Cond.methodLink "RopeDance$Reader" 3 Lib.objectInit ∈ lw_g := xg (xin_1 (List.mem_of_getElem? (i := 238) rfl)) rfl
theorem dX2_init_4 : decode bX2_init 4 = .ok (.aload_n 0, 1) := by decide +kernel
theorem dX2_init_5 : decode bX2_init 5 = .ok (.aload_n 1, 1) := by decide +kernel
theorem dX2_init_6 : decode bX2_init 6 = .ok (.putfield 9, 3) := by decide +kernel
theorem dX2_init_9 : decode bX2_init 9 = .ok (.aload_n 0, 1) := by decide +kernel
theorem dX2_init_10 : decode bX2_init 10 = .ok (.aload_n 2, 1) := by decide +kernel
theorem dX2_init_11 : decode bX2_init 11 = .ok (.putfield 15, 3) := by decide +kernel
theorem dX2_init_14 : decode bX2_init 14 = .ok (.aload_n 0, 1) := by decide +kernel
theorem dX2_init_15 : decode bX2_init 15 = .ok (.bipush 32, 2) := by decide +kernel
theorem dX2_init_17 : decode bX2_init 17 = .ok (.newarray .int, 2) := by decide +kernel
theorem dX2_init_19 : decode bX2_init 19 = .ok (.putfield 19, 3) := by decide +kernel
theorem dX2_init_22 : decode bX2_init 22 = .ok (.aload_n 0, 1) := by decide +kernel
theorem dX2_init_23 : decode bX2_init 23 = .ok (.new 23, 3) := by decide +kernel
theorem wcl_X2_23 : Cond.classLink "RopeDance$Reader" 23 "RopeDance$Square" ∈ lw_g := xg (xin_1 (List.mem_of_getElem? (i := 239) rfl)) rfl
theorem dX2_init_26 : decode bX2_init 26 = .ok (.dup, 1) := by decide +kernel
theorem dX2_init_27 : decode bX2_init 27 = .ok (.invokespecial 25, 3) := by decide +kernel
theorem dX2_init_30 : decode bX2_init 30 = .ok (.putfield 26, 3) := by decide +kernel
theorem dX2_init_33 : decode bX2_init 33 = .ok (.aload_n 0, 1) := by decide +kernel
theorem dX2_init_34 : decode bX2_init 34 = .ok (.iconst (-1), 1) := by decide +kernel
theorem dX2_init_35 : decode bX2_init 35 = .ok (.putfield 30, 3) := by decide +kernel
theorem dX2_init_38 : decode bX2_init 38 = .ok (.return_, 1) := by decide +kernel
theorem dX8_init_0 : decode bX8_init 0 = .ok (.aload_n 0, 1) := by decide +kernel
theorem dX8_init_1 : decode bX8_init 1 = .ok (.invokespecial 3, 3) := by decide +kernel
theorem woi_X8 : Cond.methodLink "RopeDance$Text" 3 Lib.objectInit ∈ lw_g := xg (xin_1 (List.mem_of_getElem? (i := 82) rfl)) rfl
theorem dX8_init_4 : decode bX8_init 4 = .ok (.aload_n 0, 1) := by decide +kernel
theorem dX8_init_5 : decode bX8_init 5 = .ok (.iconst 4, 1) := by decide +kernel
theorem dX8_init_6 : decode bX8_init 6 = .ok (.anewarray 9, 3) := by decide +kernel
theorem wcl_X8_9 : Cond.classLink "RopeDance$Text" 9 "RopeDance$Row" ∈ lw_g := xg (xin_1 (List.mem_of_getElem? (i := 83) rfl)) rfl
theorem dX8_init_9 : decode bX8_init 9 = .ok (.putfield 11, 3) := by decide +kernel
theorem dX8_init_12 : decode bX8_init 12 = .ok (.iconst 0, 1) := by decide +kernel
theorem dX8_init_13 : decode bX8_init 13 = .ok (.istore_n 1, 1) := by decide +kernel
theorem dX8_init_14 : decode bX8_init 14 = .ok (.iload_n 1, 1) := by decide +kernel
theorem dX8_init_15 : decode bX8_init 15 = .ok (.iconst 4, 1) := by decide +kernel
theorem dX8_init_16 : decode bX8_init 16 = .ok (.if_icmp .ge 22, 3) := by decide +kernel
theorem dX8_init_19 : decode bX8_init 19 = .ok (.aload_n 0, 1) := by decide +kernel
theorem dX8_init_20 : decode bX8_init 20 = .ok (.getfield 11, 3) := by decide +kernel
theorem dX8_init_23 : decode bX8_init 23 = .ok (.iload_n 1, 1) := by decide +kernel
theorem dX8_init_24 : decode bX8_init 24 = .ok (.new 9, 3) := by decide +kernel
theorem win_X3 : Cond.instantiable "RopeDance$Row" 4 ∈ lw_g := xg (xin_1 (List.mem_of_getElem? (i := 85) rfl)) rfl
theorem dX8_init_27 : decode bX8_init 27 = .ok (.dup, 1) := by decide +kernel
theorem dX8_init_28 : decode bX8_init 28 = .ok (.invokespecial 15, 3) := by decide +kernel
theorem dX8_init_31 : decode bX8_init 31 = .ok (.aastore, 1) := by decide +kernel
theorem dX8_init_32 : decode bX8_init 32 = .ok (.iinc 1 1, 3) := by decide +kernel
theorem dX8_init_35 : decode bX8_init 35 = .ok (.goto (-21), 3) := by decide +kernel
theorem dX8_init_38 : decode bX8_init 38 = .ok (.aload_n 0, 1) := by decide +kernel
theorem dX8_init_39 : decode bX8_init 39 = .ok (.iconst 5, 1) := by decide +kernel
theorem dX8_init_40 : decode bX8_init 40 = .ok (.anewarray 9, 3) := by decide +kernel
theorem dX8_init_43 : decode bX8_init 43 = .ok (.putfield 16, 3) := by decide +kernel
theorem dX8_init_46 : decode bX8_init 46 = .ok (.iconst 0, 1) := by decide +kernel
theorem dX8_init_47 : decode bX8_init 47 = .ok (.istore_n 1, 1) := by decide +kernel
theorem dX8_init_48 : decode bX8_init 48 = .ok (.iload_n 1, 1) := by decide +kernel
theorem dX8_init_49 : decode bX8_init 49 = .ok (.iconst 5, 1) := by decide +kernel
theorem dX8_init_50 : decode bX8_init 50 = .ok (.if_icmp .ge 22, 3) := by decide +kernel
theorem dX8_init_53 : decode bX8_init 53 = .ok (.aload_n 0, 1) := by decide +kernel
theorem dX8_init_54 : decode bX8_init 54 = .ok (.getfield 16, 3) := by decide +kernel
theorem dX8_init_57 : decode bX8_init 57 = .ok (.iload_n 1, 1) := by decide +kernel
theorem dX8_init_58 : decode bX8_init 58 = .ok (.new 9, 3) := by decide +kernel
theorem dX8_init_61 : decode bX8_init 61 = .ok (.dup, 1) := by decide +kernel
theorem dX8_init_62 : decode bX8_init 62 = .ok (.invokespecial 15, 3) := by decide +kernel
theorem dX8_init_65 : decode bX8_init 65 = .ok (.aastore, 1) := by decide +kernel
theorem dX8_init_66 : decode bX8_init 66 = .ok (.iinc 1 1, 3) := by decide +kernel
theorem dX8_init_69 : decode bX8_init 69 = .ok (.goto (-21), 3) := by decide +kernel
theorem dX8_init_72 : decode bX8_init 72 = .ok (.aload_n 0, 1) := by decide +kernel
theorem dX8_init_73 : decode bX8_init 73 = .ok (.bipush 9, 2) := by decide +kernel
theorem dX8_init_75 : decode bX8_init 75 = .ok (.newarray .long, 2) := by decide +kernel
theorem dX8_init_77 : decode bX8_init 77 = .ok (.putfield 19, 3) := by decide +kernel
theorem dX8_init_80 : decode bX8_init 80 = .ok (.aload_n 0, 1) := by decide +kernel
theorem dX8_init_81 : decode bX8_init 81 = .ok (.sipush 408, 3) := by decide +kernel
theorem dX8_init_84 : decode bX8_init 84 = .ok (.newarray .int, 2) := by decide +kernel
theorem dX8_init_86 : decode bX8_init 86 = .ok (.putfield 25, 3) := by decide +kernel
theorem dX8_init_89 : decode bX8_init 89 = .ok (.aload_n 0, 1) := by decide +kernel
theorem dX8_init_90 : decode bX8_init 90 = .ok (.getstatic 29, 3) := by decide +kernel
theorem dX8_init_93 : decode bX8_init 93 = .ok (.arraylength, 1) := by decide +kernel
theorem dX8_init_94 : decode bX8_init 94 = .ok (.newarray .int, 2) := by decide +kernel
theorem dX8_init_96 : decode bX8_init 96 = .ok (.putfield 32, 3) := by decide +kernel
theorem dX8_init_99 : decode bX8_init 99 = .ok (.aload_n 0, 1) := by decide +kernel
theorem dX8_init_100 : decode bX8_init 100 = .ok (.bipush 9, 2) := by decide +kernel
theorem dX8_init_102 : decode bX8_init 102 = .ok (.newarray .int, 2) := by decide +kernel
theorem dX8_init_104 : decode bX8_init 104 = .ok (.putfield 35, 3) := by decide +kernel
theorem dX8_init_107 : decode bX8_init 107 = .ok (.aload_n 0, 1) := by decide +kernel
theorem dX8_init_108 : decode bX8_init 108 = .ok (.bipush 32, 2) := by decide +kernel
theorem dX8_init_110 : decode bX8_init 110 = .ok (.newarray .int, 2) := by decide +kernel
theorem dX8_init_112 : decode bX8_init 112 = .ok (.putfield 38, 3) := by decide +kernel
theorem dX8_init_115 : decode bX8_init 115 = .ok (.aload_n 0, 1) := by decide +kernel
theorem dX8_init_116 : decode bX8_init 116 = .ok (.new 41, 3) := by decide +kernel
theorem wcl_X8_41 : Cond.classLink "RopeDance$Text" 41 "RopeDance$Square" ∈ lw_g := xg (xin_1 (List.mem_of_getElem? (i := 130) rfl)) rfl
theorem dX8_init_119 : decode bX8_init 119 = .ok (.dup, 1) := by decide +kernel
theorem dX8_init_120 : decode bX8_init 120 = .ok (.invokespecial 43, 3) := by decide +kernel
theorem dX8_init_123 : decode bX8_init 123 = .ok (.putfield 44, 3) := by decide +kernel
theorem dX10_init_0 : decode bX10_init 0 = .ok (.aload_n 0, 1) := by decide +kernel
theorem dX10_init_1 : decode bX10_init 1 = .ok (.invokespecial 3, 3) := by decide +kernel
theorem woi_X10 : Cond.methodLink "RopeDance$Unwinding" 3 Lib.objectInit ∈ lw_g := xg (xin_4 (List.mem_of_getElem? (i := 165) rfl)) rfl
theorem dX10_init_4 : decode bX10_init 4 = .ok (.aload_n 0, 1) := by decide +kernel
theorem dX10_init_5 : decode bX10_init 5 = .ok (.sipush 4950, 3) := by decide +kernel
theorem dX10_init_8 : decode bX10_init 8 = .ok (.newarray .int, 2) := by decide +kernel
theorem dX10_init_10 : decode bX10_init 10 = .ok (.putfield 11, 3) := by decide +kernel
theorem dX10_init_13 : decode bX10_init 13 = .ok (.aload_n 0, 1) := by decide +kernel
theorem dX10_init_14 : decode bX10_init 14 = .ok (.sipush 4950, 3) := by decide +kernel
theorem dX10_init_17 : decode bX10_init 17 = .ok (.newarray .int, 2) := by decide +kernel
theorem dX10_init_19 : decode bX10_init 19 = .ok (.putfield 17, 3) := by decide +kernel
theorem dX12_init_0 : decode bX12_init 0 = .ok (.aload_n 0, 1) := by decide +kernel
theorem dX12_init_1 : decode bX12_init 1 = .ok (.invokespecial 7, 3) := by decide +kernel
theorem woi_X12 : Cond.methodLink "RopeDanceModel" 7 Lib.objectInit ∈ lw_g := xg (xin_6 (List.mem_of_getElem? (i := 20) rfl)) rfl
theorem dX12_init_4 : decode bX12_init 4 = .ok (.aload_n 0, 1) := by decide +kernel
theorem dX12_init_5 : decode bX12_init 5 = .ok (.sipush 2000, 3) := by decide +kernel
theorem dX12_init_8 : decode bX12_init 8 = .ok (.newarray .byte, 2) := by decide +kernel
theorem dX12_init_10 : decode bX12_init 10 = .ok (.putfield 13, 3) := by decide +kernel
theorem dX12_init_13 : decode bX12_init 13 = .ok (.aload_n 0, 1) := by decide +kernel
theorem dX12_init_14 : decode bX12_init 14 = .ok (.sipush 2000, 3) := by decide +kernel
theorem dX12_init_17 : decode bX12_init 17 = .ok (.newarray .byte, 2) := by decide +kernel
theorem dX12_init_19 : decode bX12_init 19 = .ok (.putfield 17, 3) := by decide +kernel
theorem dX12_init_22 : decode bX12_init 22 = .ok (.aload_n 0, 1) := by decide +kernel
theorem dX12_init_23 : decode bX12_init 23 = .ok (.sipush 403, 3) := by decide +kernel
theorem dX12_init_26 : decode bX12_init 26 = .ok (.newarray .int, 2) := by decide +kernel
theorem dX12_init_28 : decode bX12_init 28 = .ok (.putfield 20, 3) := by decide +kernel
theorem dX12_init_31 : decode bX12_init 31 = .ok (.aload_n 0, 1) := by decide +kernel
theorem dX12_init_32 : decode bX12_init 32 = .ok (.sipush 403, 3) := by decide +kernel
theorem dX12_init_35 : decode bX12_init 35 = .ok (.newarray .int, 2) := by decide +kernel
theorem dX12_init_37 : decode bX12_init 37 = .ok (.putfield 24, 3) := by decide +kernel
theorem dX12_init_40 : decode bX12_init 40 = .ok (.aload_n 0, 1) := by decide +kernel
theorem dX12_init_41 : decode bX12_init 41 = .ok (.sipush 403, 3) := by decide +kernel
theorem dX12_init_44 : decode bX12_init 44 = .ok (.newarray .int, 2) := by decide +kernel
theorem dX12_init_46 : decode bX12_init 46 = .ok (.putfield 27, 3) := by decide +kernel
theorem dX12_init_49 : decode bX12_init 49 = .ok (.aload_n 0, 1) := by decide +kernel
theorem dX12_init_50 : decode bX12_init 50 = .ok (.sipush 403, 3) := by decide +kernel
theorem dX12_init_53 : decode bX12_init 53 = .ok (.newarray .long, 2) := by decide +kernel
theorem dX12_init_55 : decode bX12_init 55 = .ok (.putfield 30, 3) := by decide +kernel
theorem dX12_init_58 : decode bX12_init 58 = .ok (.aload_n 0, 1) := by decide +kernel
theorem dX12_init_59 : decode bX12_init 59 = .ok (.bipush 22, 2) := by decide +kernel
theorem dX12_init_61 : decode bX12_init 61 = .ok (.newarray .long, 2) := by decide +kernel
theorem dX12_init_63 : decode bX12_init 63 = .ok (.putfield 34, 3) := by decide +kernel
theorem dX12_init_66 : decode bX12_init 66 = .ok (.aload_n 0, 1) := by decide +kernel
theorem dX12_init_67 : decode bX12_init 67 = .ok (.iconst (-1), 1) := by decide +kernel
theorem dX12_init_68 : decode bX12_init 68 = .ok (.putfield 37, 3) := by decide +kernel
theorem dX12_init_71 : decode bX12_init 71 = .ok (.aload_n 0, 1) := by decide +kernel
theorem dX12_init_72 : decode bX12_init 72 = .ok (.bipush 9, 2) := by decide +kernel
theorem dX12_init_74 : decode bX12_init 74 = .ok (.newarray .long, 2) := by decide +kernel
theorem dX12_init_76 : decode bX12_init 76 = .ok (.putfield 40, 3) := by decide +kernel
theorem dX12_init_79 : decode bX12_init 79 = .ok (.aload_n 0, 1) := by decide +kernel
theorem dX12_init_80 : decode bX12_init 80 = .ok (.iconst 2, 1) := by decide +kernel
theorem dX12_init_81 : decode bX12_init 81 = .ok (.newarray .int, 2) := by decide +kernel
theorem dX12_init_83 : decode bX12_init 83 = .ok (.putfield 43, 3) := by decide +kernel
theorem dX12_init_86 : decode bX12_init 86 = .ok (.aload_n 0, 1) := by decide +kernel
theorem dX12_init_87 : decode bX12_init 87 = .ok (.iconst 2, 1) := by decide +kernel
theorem dX12_init_88 : decode bX12_init 88 = .ok (.newarray .int, 2) := by decide +kernel
theorem dX12_init_90 : decode bX12_init 90 = .ok (.putfield 46, 3) := by decide +kernel
theorem dX12_init_93 : decode bX12_init 93 = .ok (.aload_n 0, 1) := by decide +kernel
theorem dX12_init_94 : decode bX12_init 94 = .ok (.bipush 18, 2) := by decide +kernel
theorem dX12_init_96 : decode bX12_init 96 = .ok (.newarray .int, 2) := by decide +kernel
theorem dX12_init_98 : decode bX12_init 98 = .ok (.putfield 49, 3) := by decide +kernel
theorem dX12_init_101 : decode bX12_init 101 = .ok (.aload_n 0, 1) := by decide +kernel
theorem dX12_init_102 : decode bX12_init 102 = .ok (.sipush 144, 3) := by decide +kernel
theorem dX12_init_105 : decode bX12_init 105 = .ok (.newarray .int, 2) := by decide +kernel
theorem dX12_init_107 : decode bX12_init 107 = .ok (.putfield 52, 3) := by decide +kernel
theorem dX12_init_110 : decode bX12_init 110 = .ok (.aload_n 0, 1) := by decide +kernel
theorem dX12_init_111 : decode bX12_init 111 = .ok (.sipush 144, 3) := by decide +kernel
theorem dX12_init_114 : decode bX12_init 114 = .ok (.newarray .int, 2) := by decide +kernel
theorem dX12_init_116 : decode bX12_init 116 = .ok (.putfield 55, 3) := by decide +kernel
theorem dX12_init_119 : decode bX12_init 119 = .ok (.aload_n 0, 1) := by decide +kernel
theorem dX12_init_120 : decode bX12_init 120 = .ok (.bipush 8, 2) := by decide +kernel
theorem dX12_init_122 : decode bX12_init 122 = .ok (.newarray .int, 2) := by decide +kernel
theorem dX12_init_124 : decode bX12_init 124 = .ok (.putfield 58, 3) := by decide +kernel
theorem dX12_init_127 : decode bX12_init 127 = .ok (.aload_n 0, 1) := by decide +kernel
theorem dX12_init_128 : decode bX12_init 128 = .ok (.iconst 2, 1) := by decide +kernel
theorem dX12_init_129 : decode bX12_init 129 = .ok (.newarray .int, 2) := by decide +kernel
theorem dX12_init_131 : decode bX12_init 131 = .ok (.putfield 61, 3) := by decide +kernel
theorem dX12_init_134 : decode bX12_init 134 = .ok (.aload_n 0, 1) := by decide +kernel
theorem dX12_init_135 : decode bX12_init 135 = .ok (.bipush 8, 2) := by decide +kernel
theorem dX12_init_137 : decode bX12_init 137 = .ok (.newarray .int, 2) := by decide +kernel
theorem dX12_init_139 : decode bX12_init 139 = .ok (.putfield 64, 3) := by decide +kernel
theorem dX12_init_142 : decode bX12_init 142 = .ok (.aload_n 0, 1) := by decide +kernel
theorem dX12_init_143 : decode bX12_init 143 = .ok (.bipush 8, 2) := by decide +kernel
theorem dX12_init_145 : decode bX12_init 145 = .ok (.newarray .int, 2) := by decide +kernel
theorem dX12_init_147 : decode bX12_init 147 = .ok (.putfield 67, 3) := by decide +kernel
theorem dX12_init_150 : decode bX12_init 150 = .ok (.aload_n 0, 1) := by decide +kernel
theorem dX12_init_151 : decode bX12_init 151 = .ok (.sipush 260, 3) := by decide +kernel
theorem dX12_init_154 : decode bX12_init 154 = .ok (.newarray .boolean, 2) := by decide +kernel
theorem dX12_init_156 : decode bX12_init 156 = .ok (.putfield 70, 3) := by decide +kernel
theorem dX12_init_159 : decode bX12_init 159 = .ok (.aload_n 0, 1) := by decide +kernel
theorem dX12_init_160 : decode bX12_init 160 = .ok (.sipush 260, 3) := by decide +kernel
theorem dX12_init_163 : decode bX12_init 163 = .ok (.newarray .int, 2) := by decide +kernel
theorem dX12_init_165 : decode bX12_init 165 = .ok (.putfield 74, 3) := by decide +kernel
theorem dX12_init_168 : decode bX12_init 168 = .ok (.aload_n 0, 1) := by decide +kernel
theorem dX12_init_169 : decode bX12_init 169 = .ok (.sipush 260, 3) := by decide +kernel
theorem dX12_init_172 : decode bX12_init 172 = .ok (.newarray .int, 2) := by decide +kernel
theorem dX12_init_174 : decode bX12_init 174 = .ok (.putfield 77, 3) := by decide +kernel
theorem dX12_init_177 : decode bX12_init 177 = .ok (.aload_n 0, 1) := by decide +kernel
theorem dX12_init_178 : decode bX12_init 178 = .ok (.sipush 260, 3) := by decide +kernel
theorem dX12_init_181 : decode bX12_init 181 = .ok (.newarray .int, 2) := by decide +kernel
theorem dX12_init_183 : decode bX12_init 183 = .ok (.putfield 80, 3) := by decide +kernel
theorem dX12_init_186 : decode bX12_init 186 = .ok (.aload_n 0, 1) := by decide +kernel
theorem dX12_init_187 : decode bX12_init 187 = .ok (.sipush 260, 3) := by decide +kernel
theorem dX12_init_190 : decode bX12_init 190 = .ok (.newarray .int, 2) := by decide +kernel
theorem dX12_init_192 : decode bX12_init 192 = .ok (.putfield 83, 3) := by decide +kernel
theorem dX12_init_195 : decode bX12_init 195 = .ok (.aload_n 0, 1) := by decide +kernel
theorem dX12_init_196 : decode bX12_init 196 = .ok (.sipush 840, 3) := by decide +kernel
theorem dX12_init_199 : decode bX12_init 199 = .ok (.newarray .int, 2) := by decide +kernel
theorem dX12_init_201 : decode bX12_init 201 = .ok (.putfield 86, 3) := by decide +kernel
theorem dX12_init_204 : decode bX12_init 204 = .ok (.aload_n 0, 1) := by decide +kernel
theorem dX12_init_205 : decode bX12_init 205 = .ok (.sipush 840, 3) := by decide +kernel
theorem dX12_init_208 : decode bX12_init 208 = .ok (.newarray .int, 2) := by decide +kernel
theorem dX12_init_210 : decode bX12_init 210 = .ok (.putfield 89, 3) := by decide +kernel
theorem dX12_init_213 : decode bX12_init 213 = .ok (.aload_n 0, 1) := by decide +kernel
theorem dX12_init_214 : decode bX12_init 214 = .ok (.bipush 64, 2) := by decide +kernel
theorem dX12_init_216 : decode bX12_init 216 = .ok (.newarray .int, 2) := by decide +kernel
theorem dX12_init_218 : decode bX12_init 218 = .ok (.putfield 92, 3) := by decide +kernel
theorem dX12_init_221 : decode bX12_init 221 = .ok (.aload_n 0, 1) := by decide +kernel
theorem dX12_init_222 : decode bX12_init 222 = .ok (.bipush 9, 2) := by decide +kernel
theorem dX12_init_224 : decode bX12_init 224 = .ok (.newarray .int, 2) := by decide +kernel
theorem dX12_init_226 : decode bX12_init 226 = .ok (.putfield 95, 3) := by decide +kernel
theorem dX12_init_229 : decode bX12_init 229 = .ok (.aload_n 0, 1) := by decide +kernel
theorem dX12_init_230 : decode bX12_init 230 = .ok (.sipush 400, 3) := by decide +kernel
theorem dX12_init_233 : decode bX12_init 233 = .ok (.newarray .int, 2) := by decide +kernel
theorem dX12_init_235 : decode bX12_init 235 = .ok (.putfield 98, 3) := by decide +kernel
theorem dX12_init_238 : decode bX12_init 238 = .ok (.aload_n 0, 1) := by decide +kernel
theorem dX12_init_239 : decode bX12_init 239 = .ok (.bipush 14, 2) := by decide +kernel
theorem dX12_init_241 : decode bX12_init 241 = .ok (.newarray .int, 2) := by decide +kernel
theorem dX12_init_243 : decode bX12_init 243 = .ok (.putfield 101, 3) := by decide +kernel
theorem dX12_init_246 : decode bX12_init 246 = .ok (.aload_n 0, 1) := by decide +kernel
theorem dX12_init_247 : decode bX12_init 247 = .ok (.bipush 14, 2) := by decide +kernel
theorem dX12_init_249 : decode bX12_init 249 = .ok (.newarray .int, 2) := by decide +kernel
theorem dX12_init_251 : decode bX12_init 251 = .ok (.putfield 104, 3) := by decide +kernel
theorem dX12_init_254 : decode bX12_init 254 = .ok (.aload_n 0, 1) := by decide +kernel
theorem dX12_init_255 : decode bX12_init 255 = .ok (.sipush 20000, 3) := by decide +kernel
theorem dX12_init_258 : decode bX12_init 258 = .ok (.newarray .int, 2) := by decide +kernel
theorem dX12_init_260 : decode bX12_init 260 = .ok (.putfield 107, 3) := by decide +kernel
theorem dX12_init_263 : decode bX12_init 263 = .ok (.aload_n 0, 1) := by decide +kernel
theorem dX12_init_264 : decode bX12_init 264 = .ok (.sipush 20000, 3) := by decide +kernel
theorem dX12_init_267 : decode bX12_init 267 = .ok (.newarray .int, 2) := by decide +kernel
theorem dX12_init_269 : decode bX12_init 269 = .ok (.putfield 110, 3) := by decide +kernel
theorem dX12_init_272 : decode bX12_init 272 = .ok (.aload_n 0, 1) := by decide +kernel
theorem dX12_init_273 : decode bX12_init 273 = .ok (.sipush 560, 3) := by decide +kernel
theorem dX12_init_276 : decode bX12_init 276 = .ok (.newarray .int, 2) := by decide +kernel
theorem dX12_init_278 : decode bX12_init 278 = .ok (.putfield 113, 3) := by decide +kernel
theorem dX12_init_281 : decode bX12_init 281 = .ok (.aload_n 0, 1) := by decide +kernel
theorem dX12_init_282 : decode bX12_init 282 = .ok (.sipush 20000, 3) := by decide +kernel
theorem dX12_init_285 : decode bX12_init 285 = .ok (.newarray .int, 2) := by decide +kernel
theorem dX12_init_287 : decode bX12_init 287 = .ok (.putfield 116, 3) := by decide +kernel
theorem dX12_init_290 : decode bX12_init 290 = .ok (.aload_n 0, 1) := by decide +kernel
theorem dX12_init_291 : decode bX12_init 291 = .ok (.sipush 20000, 3) := by decide +kernel
theorem dX12_init_294 : decode bX12_init 294 = .ok (.newarray .int, 2) := by decide +kernel
theorem dX12_init_296 : decode bX12_init 296 = .ok (.putfield 119, 3) := by decide +kernel
theorem dX12_init_299 : decode bX12_init 299 = .ok (.aload_n 0, 1) := by decide +kernel
theorem dX12_init_300 : decode bX12_init 300 = .ok (.sipush 20000, 3) := by decide +kernel
theorem dX12_init_303 : decode bX12_init 303 = .ok (.newarray .int, 2) := by decide +kernel
theorem dX12_init_305 : decode bX12_init 305 = .ok (.putfield 122, 3) := by decide +kernel
theorem dX12_init_308 : decode bX12_init 308 = .ok (.aload_n 0, 1) := by decide +kernel
theorem dX12_init_309 : decode bX12_init 309 = .ok (.sipush 20000, 3) := by decide +kernel
theorem dX12_init_312 : decode bX12_init 312 = .ok (.newarray .int, 2) := by decide +kernel
theorem dX12_init_314 : decode bX12_init 314 = .ok (.putfield 125, 3) := by decide +kernel
theorem dX12_init_317 : decode bX12_init 317 = .ok (.aload_n 0, 1) := by decide +kernel
theorem dX12_init_318 : decode bX12_init 318 = .ok (.bipush 20, 2) := by decide +kernel
theorem dX12_init_320 : decode bX12_init 320 = .ok (.newarray .int, 2) := by decide +kernel
theorem dX12_init_322 : decode bX12_init 322 = .ok (.putfield 128, 3) := by decide +kernel
theorem dX12_init_325 : decode bX12_init 325 = .ok (.aload_n 0, 1) := by decide +kernel
theorem dX12_init_326 : decode bX12_init 326 = .ok (.bipush 20, 2) := by decide +kernel
theorem dX12_init_328 : decode bX12_init 328 = .ok (.newarray .int, 2) := by decide +kernel
theorem dX12_init_330 : decode bX12_init 330 = .ok (.putfield 131, 3) := by decide +kernel
theorem dX12_init_333 : decode bX12_init 333 = .ok (.aload_n 0, 1) := by decide +kernel
theorem dX12_init_334 : decode bX12_init 334 = .ok (.bipush 20, 2) := by decide +kernel
theorem dX12_init_336 : decode bX12_init 336 = .ok (.newarray .boolean, 2) := by decide +kernel
theorem dX12_init_338 : decode bX12_init 338 = .ok (.putfield 134, 3) := by decide +kernel
theorem dX12_init_341 : decode bX12_init 341 = .ok (.aload_n 0, 1) := by decide +kernel
theorem dX12_init_342 : decode bX12_init 342 = .ok (.iconst 5, 1) := by decide +kernel
theorem dX12_init_343 : decode bX12_init 343 = .ok (.newarray .int, 2) := by decide +kernel
theorem dX12_init_345 : decode bX12_init 345 = .ok (.putfield 137, 3) := by decide +kernel
theorem dX12_init_348 : decode bX12_init 348 = .ok (.aload_n 0, 1) := by decide +kernel
theorem dX12_init_349 : decode bX12_init 349 = .ok (.iconst 4, 1) := by decide +kernel
theorem dX12_init_350 : decode bX12_init 350 = .ok (.newarray .int, 2) := by decide +kernel
theorem dX12_init_352 : decode bX12_init 352 = .ok (.putfield 140, 3) := by decide +kernel
theorem dX12_init_355 : decode bX12_init 355 = .ok (.aload_n 0, 1) := by decide +kernel
theorem dX12_init_356 : decode bX12_init 356 = .ok (.bipush 15, 2) := by decide +kernel
theorem dX12_init_358 : decode bX12_init 358 = .ok (.newarray .int, 2) := by decide +kernel
theorem dX12_init_360 : decode bX12_init 360 = .ok (.putfield 143, 3) := by decide +kernel
theorem dX12_init_363 : decode bX12_init 363 = .ok (.aload_n 0, 1) := by decide +kernel
theorem dX12_init_364 : decode bX12_init 364 = .ok (.iconst 3, 1) := by decide +kernel
theorem dX12_init_365 : decode bX12_init 365 = .ok (.newarray .boolean, 2) := by decide +kernel
theorem dX12_init_367 : decode bX12_init 367 = .ok (.putfield 146, 3) := by decide +kernel
theorem dX12_init_370 : decode bX12_init 370 = .ok (.aload_n 0, 1) := by decide +kernel
theorem dX12_init_371 : decode bX12_init 371 = .ok (.bipush 42, 2) := by decide +kernel
theorem dX12_init_373 : decode bX12_init 373 = .ok (.newarray .int, 2) := by decide +kernel
theorem dX12_init_375 : decode bX12_init 375 = .ok (.putfield 149, 3) := by decide +kernel
theorem dX11_init_0 : decode bX11_init 0 = .ok (.aload_n 0, 1) := by decide +kernel
theorem dX11_init_1 : decode bX11_init 1 = .ok (.invokespecial 1, 3) := by decide +kernel
theorem woi_X11 : Cond.methodLink "RopeDance" 1 Lib.objectInit ∈ lw_g := xg (xin_1 (List.mem_of_getElem? (i := 25) rfl)) rfl
theorem dX11_init_4 : decode bX11_init 4 = .ok (.aload_n 0, 1) := by decide +kernel
theorem dX11_init_5 : decode bX11_init 5 = .ok (.new 7, 3) := by decide +kernel
theorem wcl_X11_7 : Cond.classLink "RopeDance" 7 "RopeDance$Tape" ∈ lw_g := xg (xin_1 (List.mem_of_getElem? (i := 28) rfl)) rfl
theorem win_X7 : Cond.instantiable "RopeDance$Tape" 11 ∈ lw_g := xg (xin_1 (List.mem_of_getElem? (i := 29) rfl)) rfl
theorem dX11_init_8 : decode bX11_init 8 = .ok (.dup, 1) := by decide +kernel
theorem dX11_init_9 : decode bX11_init 9 = .ok (.invokespecial 9, 3) := by decide +kernel
theorem dX11_init_12 : decode bX11_init 12 = .ok (.putfield 10, 3) := by decide +kernel
theorem dX11_init_15 : decode bX11_init 15 = .ok (.aload_n 0, 1) := by decide +kernel
theorem dX11_init_16 : decode bX11_init 16 = .ok (.new 16, 3) := by decide +kernel
theorem wcl_X11_16 : Cond.classLink "RopeDance" 16 "RopeDance$Text" ∈ lw_g := xg (xin_1 (List.mem_of_getElem? (i := 77) rfl)) rfl
theorem win_X8 : Cond.instantiable "RopeDance$Text" 13 ∈ lw_g := xg (xin_1 (List.mem_of_getElem? (i := 78) rfl)) rfl
theorem dX11_init_19 : decode bX11_init 19 = .ok (.dup, 1) := by decide +kernel
theorem dX11_init_20 : decode bX11_init 20 = .ok (.invokespecial 18, 3) := by decide +kernel
theorem dX11_init_23 : decode bX11_init 23 = .ok (.putfield 19, 3) := by decide +kernel
theorem dX11_init_26 : decode bX11_init 26 = .ok (.aload_n 0, 1) := by decide +kernel
theorem dX11_init_27 : decode bX11_init 27 = .ok (.new 16, 3) := by decide +kernel
theorem dX11_init_30 : decode bX11_init 30 = .ok (.dup, 1) := by decide +kernel
theorem dX11_init_31 : decode bX11_init 31 = .ok (.invokespecial 18, 3) := by decide +kernel
theorem dX11_init_34 : decode bX11_init 34 = .ok (.putfield 23, 3) := by decide +kernel
theorem dX11_init_37 : decode bX11_init 37 = .ok (.aload_n 0, 1) := by decide +kernel
theorem dX11_init_38 : decode bX11_init 38 = .ok (.new 26, 3) := by decide +kernel
theorem wcl_X11_26 : Cond.classLink "RopeDance" 26 "RopeDance$Reader" ∈ lw_g := xg (xin_1 (List.mem_of_getElem? (i := 233) rfl)) rfl
theorem win_X2 : Cond.instantiable "RopeDance$Reader" 10 ∈ lw_g := xg (xin_1 (List.mem_of_getElem? (i := 234) rfl)) rfl
theorem dX11_init_41 : decode bX11_init 41 = .ok (.dup, 1) := by decide +kernel
theorem dX11_init_42 : decode bX11_init 42 = .ok (.aload_n 0, 1) := by decide +kernel
theorem dX11_init_43 : decode bX11_init 43 = .ok (.getfield 10, 3) := by decide +kernel
theorem dX11_init_46 : decode bX11_init 46 = .ok (.aload_n 0, 1) := by decide +kernel
theorem dX11_init_47 : decode bX11_init 47 = .ok (.getfield 23, 3) := by decide +kernel
theorem dX11_init_50 : decode bX11_init 50 = .ok (.invokespecial 28, 3) := by decide +kernel
theorem dX11_init_53 : decode bX11_init 53 = .ok (.putfield 31, 3) := by decide +kernel
theorem dX11_init_56 : decode bX11_init 56 = .ok (.aload_n 0, 1) := by decide +kernel
theorem dX11_init_57 : decode bX11_init 57 = .ok (.new 35, 3) := by decide +kernel
theorem wcl_X11_35 : Cond.classLink "RopeDance" 35 "RopeDance$Evening" ∈ lw_g := xg (xin_2 (List.mem_of_getElem? (i := 34) rfl)) rfl
theorem win_X0 : Cond.instantiable "RopeDance$Evening" 3 ∈ lw_g := xg (xin_2 (List.mem_of_getElem? (i := 35) rfl)) rfl
theorem dX11_init_60 : decode bX11_init 60 = .ok (.dup, 1) := by decide +kernel
theorem dX11_init_61 : decode bX11_init 61 = .ok (.invokespecial 37, 3) := by decide +kernel
theorem dX11_init_64 : decode bX11_init 64 = .ok (.putfield 38, 3) := by decide +kernel
theorem dX11_init_67 : decode bX11_init 67 = .ok (.aload_n 0, 1) := by decide +kernel
theorem dX11_init_68 : decode bX11_init 68 = .ok (.new 42, 3) := by decide +kernel
theorem wcl_X11_42 : Cond.classLink "RopeDance" 42 "RopeDance$Memory" ∈ lw_g := xg (xin_2 (List.mem_of_getElem? (i := 56) rfl)) rfl
theorem win_X1 : Cond.instantiable "RopeDance$Memory" 5 ∈ lw_g := xg (xin_2 (List.mem_of_getElem? (i := 57) rfl)) rfl
theorem dX11_init_71 : decode bX11_init 71 = .ok (.dup, 1) := by decide +kernel
theorem dX11_init_72 : decode bX11_init 72 = .ok (.invokespecial 44, 3) := by decide +kernel
theorem dX11_init_75 : decode bX11_init 75 = .ok (.putfield 45, 3) := by decide +kernel
theorem dX11_init_78 : decode bX11_init 78 = .ok (.aload_n 0, 1) := by decide +kernel
theorem dX11_init_79 : decode bX11_init 79 = .ok (.new 49, 3) := by decide +kernel
theorem wcl_X11_49 : Cond.classLink "RopeDance" 49 "RopeDance$Told" ∈ lw_g := xg (xin_2 (List.mem_of_getElem? (i := 82) rfl)) rfl
theorem win_X9 : Cond.instantiable "RopeDance$Told" 9 ∈ lw_g := xg (xin_2 (List.mem_of_getElem? (i := 83) rfl)) rfl
theorem dX11_init_82 : decode bX11_init 82 = .ok (.dup, 1) := by decide +kernel
theorem dX11_init_83 : decode bX11_init 83 = .ok (.invokespecial 51, 3) := by decide +kernel
theorem dX11_init_86 : decode bX11_init 86 = .ok (.putfield 52, 3) := by decide +kernel
theorem dX11_init_89 : decode bX11_init 89 = .ok (.aload_n 0, 1) := by decide +kernel
theorem dX11_init_90 : decode bX11_init 90 = .ok (.new 56, 3) := by decide +kernel
theorem wcl_X11_56 : Cond.classLink "RopeDance" 56 "RopeDance$Square" ∈ lw_g := xg (xin_2 (List.mem_of_getElem? (i := 121) rfl)) rfl
theorem dX11_init_93 : decode bX11_init 93 = .ok (.dup, 1) := by decide +kernel
theorem dX11_init_94 : decode bX11_init 94 = .ok (.invokespecial 58, 3) := by decide +kernel
theorem dX11_init_97 : decode bX11_init 97 = .ok (.putfield 59, 3) := by decide +kernel
theorem dX11_init_100 : decode bX11_init 100 = .ok (.aload_n 0, 1) := by decide +kernel
theorem dX11_init_101 : decode bX11_init 101 = .ok (.new 63, 3) := by decide +kernel
theorem wcl_X11_63 : Cond.classLink "RopeDance" 63 "RopeDance$Table" ∈ lw_g := xg (xin_2 (List.mem_of_getElem? (i := 123) rfl)) rfl
theorem dX11_init_104 : decode bX11_init 104 = .ok (.dup, 1) := by decide +kernel
theorem dX11_init_105 : decode bX11_init 105 = .ok (.invokespecial 65, 3) := by decide +kernel
theorem dX11_init_108 : decode bX11_init 108 = .ok (.putfield 66, 3) := by decide +kernel
theorem dX11_init_111 : decode bX11_init 111 = .ok (.aload_n 0, 1) := by decide +kernel
theorem dX11_init_112 : decode bX11_init 112 = .ok (.new 63, 3) := by decide +kernel
theorem dX11_init_115 : decode bX11_init 115 = .ok (.dup, 1) := by decide +kernel
theorem dX11_init_116 : decode bX11_init 116 = .ok (.invokespecial 65, 3) := by decide +kernel
theorem dX11_init_119 : decode bX11_init 119 = .ok (.putfield 70, 3) := by decide +kernel
theorem dX11_init_122 : decode bX11_init 122 = .ok (.return_, 1) := by decide +kernel
theorem dX8_init_126 : decode bX8_init 126 = .ok (.aload_n 0, 1) := by decide +kernel
theorem dX8_init_127 : decode bX8_init 127 = .ok (.invokevirtual 48, 3) := by decide +kernel
theorem dX8_init_130 : decode bX8_init 130 = .ok (.return_, 1) := by decide +kernel
theorem dX10_init_22 : decode bX10_init 22 = .ok (.iconst 1, 1) := by decide +kernel
theorem dX10_init_23 : decode bX10_init 23 = .ok (.istore_n 1, 1) := by decide +kernel
theorem dX10_init_24 : decode bX10_init 24 = .ok (.iload_n 1, 1) := by decide +kernel
theorem dX10_init_25 : decode bX10_init 25 = .ok (.bipush 99, 2) := by decide +kernel
theorem dX10_init_27 : decode bX10_init 27 = .ok (.if_icmp .gt 67, 3) := by decide +kernel
theorem dX10_init_30 : decode bX10_init 30 = .ok (.aload_n 0, 1) := by decide +kernel
theorem dX10_init_31 : decode bX10_init 31 = .ok (.getfield 17, 3) := by decide +kernel
theorem dX10_init_34 : decode bX10_init 34 = .ok (.iload_n 1, 1) := by decide +kernel
theorem dX10_init_35 : decode bX10_init 35 = .ok (.iconst 0, 1) := by decide +kernel
theorem dX10_init_36 : decode bX10_init 36 = .ok (.invokestatic 20, 3) := by decide +kernel
theorem dX10_init_39 : decode bX10_init 39 = .ok (.iconst 1, 1) := by decide +kernel
theorem dX10_init_40 : decode bX10_init 40 = .ok (.iastore, 1) := by decide +kernel
theorem dX10_init_41 : decode bX10_init 41 = .ok (.iconst 1, 1) := by decide +kernel
theorem dX10_init_42 : decode bX10_init 42 = .ok (.istore_n 2, 1) := by decide +kernel
theorem dX10_init_43 : decode bX10_init 43 = .ok (.iload_n 2, 1) := by decide +kernel
theorem dX10_init_44 : decode bX10_init 44 = .ok (.iload_n 1, 1) := by decide +kernel
theorem dX10_init_45 : decode bX10_init 45 = .ok (.if_icmp .ge 43, 3) := by decide +kernel
theorem dX10_init_48 : decode bX10_init 48 = .ok (.aload_n 0, 1) := by decide +kernel
theorem dX10_init_49 : decode bX10_init 49 = .ok (.getfield 11, 3) := by decide +kernel
theorem dX10_init_52 : decode bX10_init 52 = .ok (.iload_n 1, 1) := by decide +kernel
theorem dX10_init_53 : decode bX10_init 53 = .ok (.iload_n 2, 1) := by decide +kernel
theorem dX10_init_54 : decode bX10_init 54 = .ok (.invokestatic 20, 3) := by decide +kernel
theorem dX10_init_57 : decode bX10_init 57 = .ok (.iconst 1, 1) := by decide +kernel
theorem dX10_init_58 : decode bX10_init 58 = .ok (.aload_n 0, 1) := by decide +kernel
theorem dX10_init_59 : decode bX10_init 59 = .ok (.iload_n 1, 1) := by decide +kernel
theorem dX10_init_60 : decode bX10_init 60 = .ok (.iload_n 2, 1) := by decide +kernel
theorem dX10_init_61 : decode bX10_init 61 = .ok (.invokevirtual 24, 3) := by decide +kernel
theorem dX10_init_64 : decode bX10_init 64 = .ok (.iadd, 1) := by decide +kernel
theorem dX10_init_65 : decode bX10_init 65 = .ok (.iastore, 1) := by decide +kernel
theorem dX10_init_66 : decode bX10_init 66 = .ok (.aload_n 0, 1) := by decide +kernel
theorem dX10_init_67 : decode bX10_init 67 = .ok (.getfield 17, 3) := by decide +kernel
theorem dX10_init_70 : decode bX10_init 70 = .ok (.iload_n 1, 1) := by decide +kernel
theorem dX10_init_71 : decode bX10_init 71 = .ok (.iload_n 2, 1) := by decide +kernel
theorem dX10_init_72 : decode bX10_init 72 = .ok (.invokestatic 20, 3) := by decide +kernel
theorem dX10_init_75 : decode bX10_init 75 = .ok (.aload_n 0, 1) := by decide +kernel
theorem dX10_init_76 : decode bX10_init 76 = .ok (.iload_n 1, 1) := by decide +kernel
theorem dX10_init_77 : decode bX10_init 77 = .ok (.iload_n 2, 1) := by decide +kernel
theorem dX10_init_78 : decode bX10_init 78 = .ok (.invokevirtual 27, 3) := by decide +kernel
theorem dX10_init_81 : decode bX10_init 81 = .ok (.iastore, 1) := by decide +kernel
theorem dX10_init_82 : decode bX10_init 82 = .ok (.iinc 2 1, 3) := by decide +kernel
theorem dX10_init_85 : decode bX10_init 85 = .ok (.goto (-42), 3) := by decide +kernel
theorem dX10_init_88 : decode bX10_init 88 = .ok (.iinc 1 1, 3) := by decide +kernel
theorem dX10_init_91 : decode bX10_init 91 = .ok (.goto (-67), 3) := by decide +kernel
theorem dX10_init_94 : decode bX10_init 94 = .ok (.return_, 1) := by decide +kernel
theorem dX12_init_378 : decode bX12_init 378 = .ok (.aload_n 0, 1) := by decide +kernel
theorem dX12_init_379 : decode bX12_init 379 = .ok (.iconst 0, 1) := by decide +kernel
theorem dX12_init_380 : decode bX12_init 380 = .ok (.invokevirtual 152, 3) := by decide +kernel
theorem dX12_init_383 : decode bX12_init 383 = .ok (.aload_n 0, 1) := by decide +kernel
theorem dX12_init_384 : decode bX12_init 384 = .ok (.iconst 1, 1) := by decide +kernel
theorem dX12_init_385 : decode bX12_init 385 = .ok (.invokevirtual 152, 3) := by decide +kernel
theorem dX12_init_388 : decode bX12_init 388 = .ok (.aload_n 0, 1) := by decide +kernel
theorem dX12_init_389 : decode bX12_init 389 = .ok (.getfield 34, 3) := by decide +kernel
theorem dX12_init_392 : decode bX12_init 392 = .ok (.iconst 0, 1) := by decide +kernel
theorem dX12_init_393 : decode bX12_init 393 = .ok (.bipush 115, 2) := by decide +kernel
theorem dX12_init_395 : decode bX12_init 395 = .ok (.bipush 113, 2) := by decide +kernel
theorem dX12_init_397 : decode bX12_init 397 = .ok (.bipush 117, 2) := by decide +kernel
theorem dX12_init_399 : decode bX12_init 399 = .ok (.bipush 97, 2) := by decide +kernel
theorem dX12_init_401 : decode bX12_init 401 = .ok (.bipush 114, 2) := by decide +kernel
theorem dX12_init_403 : decode bX12_init 403 = .ok (.bipush 101, 2) := by decide +kernel
theorem dX12_init_405 : decode bX12_init 405 = .ok (.iconst 0, 1) := by decide +kernel
theorem dX12_init_406 : decode bX12_init 406 = .ok (.invokestatic 156, 3) := by decide +kernel
theorem dX12_init_409 : decode bX12_init 409 = .ok (.lastore, 1) := by decide +kernel
theorem dX12_init_410 : decode bX12_init 410 = .ok (.aload_n 0, 1) := by decide +kernel
theorem dX12_init_411 : decode bX12_init 411 = .ok (.getfield 34, 3) := by decide +kernel
theorem dX12_init_414 : decode bX12_init 414 = .ok (.iconst 1, 1) := by decide +kernel
theorem dX12_init_415 : decode bX12_init 415 = .ok (.bipush 102, 2) := by decide +kernel
theorem dX12_init_417 : decode bX12_init 417 = .ok (.bipush 105, 2) := by decide +kernel
theorem dX12_init_419 : decode bX12_init 419 = .ok (.bipush 103, 2) := by decide +kernel
theorem dX12_init_421 : decode bX12_init 421 = .ok (.bipush 117, 2) := by decide +kernel
theorem dX12_init_423 : decode bX12_init 423 = .ok (.bipush 114, 2) := by decide +kernel
theorem dX12_init_425 : decode bX12_init 425 = .ok (.bipush 101, 2) := by decide +kernel
theorem dX12_init_427 : decode bX12_init 427 = .ok (.iconst 0, 1) := by decide +kernel
theorem dX12_init_428 : decode bX12_init 428 = .ok (.invokestatic 156, 3) := by decide +kernel
theorem dX12_init_431 : decode bX12_init 431 = .ok (.lastore, 1) := by decide +kernel
theorem dX12_init_432 : decode bX12_init 432 = .ok (.aload_n 0, 1) := by decide +kernel
theorem dX12_init_433 : decode bX12_init 433 = .ok (.getfield 34, 3) := by decide +kernel
theorem dX12_init_436 : decode bX12_init 436 = .ok (.iconst 2, 1) := by decide +kernel
theorem dX12_init_437 : decode bX12_init 437 = .ok (.bipush 116, 2) := by decide +kernel
theorem dX12_init_439 : decode bX12_init 439 = .ok (.bipush 105, 2) := by decide +kernel
theorem dX12_init_441 : decode bX12_init 441 = .ok (.bipush 114, 2) := by decide +kernel
theorem dX12_init_443 : decode bX12_init 443 = .ok (.bipush 101, 2) := by decide +kernel
theorem dX12_init_445 : decode bX12_init 445 = .ok (.bipush 115, 2) := by decide +kernel
theorem dX12_init_447 : decode bX12_init 447 = .ok (.iconst 0, 1) := by decide +kernel
theorem dX12_init_448 : decode bX12_init 448 = .ok (.iconst 0, 1) := by decide +kernel
theorem dX12_init_449 : decode bX12_init 449 = .ok (.invokestatic 156, 3) := by decide +kernel
theorem dX12_init_452 : decode bX12_init 452 = .ok (.lastore, 1) := by decide +kernel
theorem dX12_init_453 : decode bX12_init 453 = .ok (.aload_n 0, 1) := by decide +kernel
theorem dX12_init_454 : decode bX12_init 454 = .ok (.getfield 34, 3) := by decide +kernel
theorem dX12_init_457 : decode bX12_init 457 = .ok (.iconst 3, 1) := by decide +kernel
theorem dX12_init_458 : decode bX12_init 458 = .ok (.bipush 114, 2) := by decide +kernel
theorem dX12_init_460 : decode bX12_init 460 = .ok (.bipush 101, 2) := by decide +kernel
theorem dX12_init_462 : decode bX12_init 462 = .ok (.bipush 115, 2) := by decide +kernel
theorem dX12_init_464 : decode bX12_init 464 = .ok (.bipush 116, 2) := by decide +kernel
theorem dX12_init_466 : decode bX12_init 466 = .ok (.bipush 115, 2) := by decide +kernel
theorem dX12_init_468 : decode bX12_init 468 = .ok (.iconst 0, 1) := by decide +kernel
theorem dX12_init_469 : decode bX12_init 469 = .ok (.iconst 0, 1) := by decide +kernel
theorem dX12_init_470 : decode bX12_init 470 = .ok (.invokestatic 156, 3) := by decide +kernel
theorem dX12_init_473 : decode bX12_init 473 = .ok (.lastore, 1) := by decide +kernel
theorem dX12_init_474 : decode bX12_init 474 = .ok (.aload_n 0, 1) := by decide +kernel
theorem dX12_init_475 : decode bX12_init 475 = .ok (.getfield 34, 3) := by decide +kernel
theorem dX12_init_478 : decode bX12_init 478 = .ok (.iconst 4, 1) := by decide +kernel
theorem dX12_init_479 : decode bX12_init 479 = .ok (.bipush 112, 2) := by decide +kernel
theorem dX12_init_481 : decode bX12_init 481 = .ok (.bipush 97, 2) := by decide +kernel
theorem dX12_init_483 : decode bX12_init 483 = .ok (.bipush 121, 2) := by decide +kernel
theorem dX12_init_485 : decode bX12_init 485 = .ok (.bipush 115, 2) := by decide +kernel
theorem dX12_init_487 : decode bX12_init 487 = .ok (.iconst 0, 1) := by decide +kernel
theorem dX12_init_488 : decode bX12_init 488 = .ok (.iconst 0, 1) := by decide +kernel
theorem dX12_init_489 : decode bX12_init 489 = .ok (.iconst 0, 1) := by decide +kernel
theorem dX12_init_490 : decode bX12_init 490 = .ok (.invokestatic 156, 3) := by decide +kernel
theorem dX12_init_493 : decode bX12_init 493 = .ok (.lastore, 1) := by decide +kernel
theorem dX12_init_494 : decode bX12_init 494 = .ok (.aload_n 0, 1) := by decide +kernel
theorem dX12_init_495 : decode bX12_init 495 = .ok (.getfield 34, 3) := by decide +kernel
theorem dX12_init_498 : decode bX12_init 498 = .ok (.iconst 5, 1) := by decide +kernel
theorem dX12_init_499 : decode bX12_init 499 = .ok (.bipush 115, 2) := by decide +kernel
theorem dX12_init_501 : decode bX12_init 501 = .ok (.bipush 108, 2) := by decide +kernel
theorem dX12_init_503 : decode bX12_init 503 = .ok (.bipush 105, 2) := by decide +kernel
theorem dX12_init_505 : decode bX12_init 505 = .ok (.bipush 112, 2) := by decide +kernel
theorem dX12_init_507 : decode bX12_init 507 = .ok (.bipush 115, 2) := by decide +kernel
theorem dX12_init_509 : decode bX12_init 509 = .ok (.iconst 0, 1) := by decide +kernel
theorem dX12_init_510 : decode bX12_init 510 = .ok (.iconst 0, 1) := by decide +kernel
theorem dX12_init_511 : decode bX12_init 511 = .ok (.invokestatic 156, 3) := by decide +kernel
theorem dX12_init_514 : decode bX12_init 514 = .ok (.lastore, 1) := by decide +kernel
theorem dX12_init_515 : decode bX12_init 515 = .ok (.aload_n 0, 1) := by decide +kernel
theorem dX12_init_516 : decode bX12_init 516 = .ok (.getfield 34, 3) := by decide +kernel
theorem dX12_init_519 : decode bX12_init 519 = .ok (.bipush 6, 2) := by decide +kernel
theorem dX12_init_521 : decode bX12_init 521 = .ok (.bipush 115, 2) := by decide +kernel
theorem dX12_init_523 : decode bX12_init 523 = .ok (.bipush 101, 2) := by decide +kernel
theorem dX12_init_525 : decode bX12_init 525 = .ok (.bipush 101, 2) := by decide +kernel
theorem dX12_init_527 : decode bX12_init 527 = .ok (.bipush 100, 2) := by decide +kernel
theorem dX12_init_529 : decode bX12_init 529 = .ok (.iconst 0, 1) := by decide +kernel
theorem dX12_init_530 : decode bX12_init 530 = .ok (.iconst 0, 1) := by decide +kernel
theorem dX12_init_531 : decode bX12_init 531 = .ok (.iconst 0, 1) := by decide +kernel
theorem dX12_init_532 : decode bX12_init 532 = .ok (.invokestatic 156, 3) := by decide +kernel
theorem dX12_init_535 : decode bX12_init 535 = .ok (.lastore, 1) := by decide +kernel
theorem dX12_init_536 : decode bX12_init 536 = .ok (.aload_n 0, 1) := by decide +kernel
theorem dX12_init_537 : decode bX12_init 537 = .ok (.getfield 34, 3) := by decide +kernel
theorem dX12_init_540 : decode bX12_init 540 = .ok (.bipush 7, 2) := by decide +kernel
theorem dX12_init_542 : decode bX12_init 542 = .ok (.bipush 116, 2) := by decide +kernel
theorem dX12_init_544 : decode bX12_init 544 = .ok (.bipush 119, 2) := by decide +kernel
theorem dX12_init_546 : decode bX12_init 546 = .ok (.bipush 105, 2) := by decide +kernel
theorem dX12_init_548 : decode bX12_init 548 = .ok (.bipush 115, 2) := by decide +kernel
theorem dX12_init_550 : decode bX12_init 550 = .ok (.bipush 116, 2) := by decide +kernel
theorem dX12_init_552 : decode bX12_init 552 = .ok (.iconst 0, 1) := by decide +kernel
theorem dX12_init_553 : decode bX12_init 553 = .ok (.iconst 0, 1) := by decide +kernel
theorem dX12_init_554 : decode bX12_init 554 = .ok (.invokestatic 156, 3) := by decide +kernel
theorem dX12_init_557 : decode bX12_init 557 = .ok (.lastore, 1) := by decide +kernel
theorem dX12_init_558 : decode bX12_init 558 = .ok (.aload_n 0, 1) := by decide +kernel
theorem dX12_init_559 : decode bX12_init 559 = .ok (.getfield 34, 3) := by decide +kernel
theorem dX12_init_562 : decode bX12_init 562 = .ok (.bipush 8, 2) := by decide +kernel
theorem dX12_init_564 : decode bX12_init 564 = .ok (.bipush 98, 2) := by decide +kernel
theorem dX12_init_566 : decode bX12_init 566 = .ok (.bipush 97, 2) := by decide +kernel
theorem dX12_init_568 : decode bX12_init 568 = .ok (.bipush 99, 2) := by decide +kernel
theorem dX12_init_570 : decode bX12_init 570 = .ok (.bipush 107, 2) := by decide +kernel
theorem dX12_init_572 : decode bX12_init 572 = .ok (.iconst 0, 1) := by decide +kernel
theorem dX12_init_573 : decode bX12_init 573 = .ok (.iconst 0, 1) := by decide +kernel
theorem dX12_init_574 : decode bX12_init 574 = .ok (.iconst 0, 1) := by decide +kernel
theorem dX12_init_575 : decode bX12_init 575 = .ok (.invokestatic 156, 3) := by decide +kernel
theorem dX12_init_578 : decode bX12_init 578 = .ok (.lastore, 1) := by decide +kernel
theorem dX12_init_579 : decode bX12_init 579 = .ok (.aload_n 0, 1) := by decide +kernel
theorem dX12_init_580 : decode bX12_init 580 = .ok (.getfield 34, 3) := by decide +kernel
theorem dX12_init_583 : decode bX12_init 583 = .ok (.bipush 9, 2) := by decide +kernel
theorem dX12_init_585 : decode bX12_init 585 = .ok (.bipush 116, 2) := by decide +kernel
theorem dX12_init_587 : decode bX12_init 587 = .ok (.bipush 117, 2) := by decide +kernel
theorem dX12_init_589 : decode bX12_init 589 = .ok (.bipush 114, 2) := by decide +kernel
theorem dX12_init_591 : decode bX12_init 591 = .ok (.bipush 110, 2) := by decide +kernel
theorem dX12_init_593 : decode bX12_init 593 = .ok (.iconst 0, 1) := by decide +kernel
theorem dX12_init_594 : decode bX12_init 594 = .ok (.iconst 0, 1) := by decide +kernel
theorem dX12_init_595 : decode bX12_init 595 = .ok (.iconst 0, 1) := by decide +kernel
theorem dX12_init_596 : decode bX12_init 596 = .ok (.invokestatic 156, 3) := by decide +kernel
theorem dX12_init_599 : decode bX12_init 599 = .ok (.lastore, 1) := by decide +kernel
theorem dX12_init_600 : decode bX12_init 600 = .ok (.aload_n 0, 1) := by decide +kernel
theorem dX12_init_601 : decode bX12_init 601 = .ok (.getfield 34, 3) := by decide +kernel
theorem dX12_init_604 : decode bX12_init 604 = .ok (.bipush 10, 2) := by decide +kernel
theorem dX12_init_606 : decode bX12_init 606 = .ok (.bipush 105, 2) := by decide +kernel
theorem dX12_init_608 : decode bX12_init 608 = .ok (.bipush 102, 2) := by decide +kernel
theorem dX12_init_610 : decode bX12_init 610 = .ok (.iconst 0, 1) := by decide +kernel
theorem dX12_init_611 : decode bX12_init 611 = .ok (.iconst 0, 1) := by decide +kernel
theorem dX12_init_612 : decode bX12_init 612 = .ok (.iconst 0, 1) := by decide +kernel
theorem dX12_init_613 : decode bX12_init 613 = .ok (.iconst 0, 1) := by decide +kernel
theorem dX12_init_614 : decode bX12_init 614 = .ok (.iconst 0, 1) := by decide +kernel
theorem dX12_init_615 : decode bX12_init 615 = .ok (.invokestatic 156, 3) := by decide +kernel
theorem dX12_init_618 : decode bX12_init 618 = .ok (.lastore, 1) := by decide +kernel
theorem dX12_init_619 : decode bX12_init 619 = .ok (.aload_n 0, 1) := by decide +kernel
theorem dX12_init_620 : decode bX12_init 620 = .ok (.getfield 34, 3) := by decide +kernel
theorem dX12_init_623 : decode bX12_init 623 = .ok (.bipush 11, 2) := by decide +kernel
theorem dX12_init_625 : decode bX12_init 625 = .ok (.bipush 116, 2) := by decide +kernel
theorem dX12_init_627 : decode bX12_init 627 = .ok (.bipush 104, 2) := by decide +kernel
theorem dX12_init_629 : decode bX12_init 629 = .ok (.bipush 101, 2) := by decide +kernel
theorem dX12_init_631 : decode bX12_init 631 = .ok (.bipush 110, 2) := by decide +kernel
theorem dX12_init_633 : decode bX12_init 633 = .ok (.iconst 0, 1) := by decide +kernel
theorem dX12_init_634 : decode bX12_init 634 = .ok (.iconst 0, 1) := by decide +kernel
theorem dX12_init_635 : decode bX12_init 635 = .ok (.iconst 0, 1) := by decide +kernel
theorem dX12_init_636 : decode bX12_init 636 = .ok (.invokestatic 156, 3) := by decide +kernel
theorem dX12_init_639 : decode bX12_init 639 = .ok (.lastore, 1) := by decide +kernel
theorem dX12_init_640 : decode bX12_init 640 = .ok (.aload_n 0, 1) := by decide +kernel
theorem dX12_init_641 : decode bX12_init 641 = .ok (.getfield 34, 3) := by decide +kernel
theorem dX12_init_644 : decode bX12_init 644 = .ok (.bipush 12, 2) := by decide +kernel
theorem dX12_init_646 : decode bX12_init 646 = .ok (.bipush 101, 2) := by decide +kernel
theorem dX12_init_648 : decode bX12_init 648 = .ok (.bipush 108, 2) := by decide +kernel
theorem dX12_init_650 : decode bX12_init 650 = .ok (.bipush 115, 2) := by decide +kernel
theorem dX12_init_652 : decode bX12_init 652 = .ok (.bipush 101, 2) := by decide +kernel
theorem dX12_init_654 : decode bX12_init 654 = .ok (.iconst 0, 1) := by decide +kernel
theorem dX12_init_655 : decode bX12_init 655 = .ok (.iconst 0, 1) := by decide +kernel
theorem dX12_init_656 : decode bX12_init 656 = .ok (.iconst 0, 1) := by decide +kernel
theorem dX12_init_657 : decode bX12_init 657 = .ok (.invokestatic 156, 3) := by decide +kernel
theorem dX12_init_660 : decode bX12_init 660 = .ok (.lastore, 1) := by decide +kernel
theorem dX12_init_661 : decode bX12_init 661 = .ok (.aload_n 0, 1) := by decide +kernel
theorem dX12_init_662 : decode bX12_init 662 = .ok (.getfield 34, 3) := by decide +kernel
theorem dX12_init_665 : decode bX12_init 665 = .ok (.bipush 13, 2) := by decide +kernel
theorem dX12_init_667 : decode bX12_init 667 = .ok (.bipush 111, 2) := by decide +kernel
theorem dX12_init_669 : decode bX12_init 669 = .ok (.bipush 118, 2) := by decide +kernel
theorem dX12_init_671 : decode bX12_init 671 = .ok (.bipush 101, 2) := by decide +kernel
theorem dX12_init_673 : decode bX12_init 673 = .ok (.bipush 114, 2) := by decide +kernel
theorem dX12_init_675 : decode bX12_init 675 = .ok (.iconst 0, 1) := by decide +kernel
theorem dX12_init_676 : decode bX12_init 676 = .ok (.iconst 0, 1) := by decide +kernel
theorem dX12_init_677 : decode bX12_init 677 = .ok (.iconst 0, 1) := by decide +kernel
theorem dX12_init_678 : decode bX12_init 678 = .ok (.invokestatic 156, 3) := by decide +kernel
theorem dX12_init_681 : decode bX12_init 681 = .ok (.lastore, 1) := by decide +kernel
theorem dX12_init_682 : decode bX12_init 682 = .ok (.aload_n 0, 1) := by decide +kernel
theorem dX12_init_683 : decode bX12_init 683 = .ok (.getfield 34, 3) := by decide +kernel
theorem dX12_init_686 : decode bX12_init 686 = .ok (.bipush 14, 2) := by decide +kernel
theorem dX12_init_688 : decode bX12_init 688 = .ok (.bipush 117, 2) := by decide +kernel
theorem dX12_init_690 : decode bX12_init 690 = .ok (.bipush 110, 2) := by decide +kernel
theorem dX12_init_692 : decode bX12_init 692 = .ok (.bipush 100, 2) := by decide +kernel
theorem dX12_init_694 : decode bX12_init 694 = .ok (.bipush 101, 2) := by decide +kernel
theorem dX12_init_696 : decode bX12_init 696 = .ok (.bipush 114, 2) := by decide +kernel
theorem dX12_init_698 : decode bX12_init 698 = .ok (.iconst 0, 1) := by decide +kernel
theorem dX12_init_699 : decode bX12_init 699 = .ok (.iconst 0, 1) := by decide +kernel
theorem dX12_init_700 : decode bX12_init 700 = .ok (.invokestatic 156, 3) := by decide +kernel
theorem dX12_init_703 : decode bX12_init 703 = .ok (.lastore, 1) := by decide +kernel
theorem dX12_init_704 : decode bX12_init 704 = .ok (.aload_n 0, 1) := by decide +kernel
theorem dX12_init_705 : decode bX12_init 705 = .ok (.getfield 34, 3) := by decide +kernel
theorem dX12_init_708 : decode bX12_init 708 = .ok (.bipush 15, 2) := by decide +kernel
theorem dX12_init_710 : decode bX12_init 710 = .ok (.bipush 99, 2) := by decide +kernel
theorem dX12_init_712 : decode bX12_init 712 = .ok (.bipush 114, 2) := by decide +kernel
theorem dX12_init_714 : decode bX12_init 714 = .ok (.bipush 111, 2) := by decide +kernel
theorem dX12_init_716 : decode bX12_init 716 = .ok (.bipush 115, 2) := by decide +kernel
theorem dX12_init_718 : decode bX12_init 718 = .ok (.bipush 115, 2) := by decide +kernel
theorem dX12_init_720 : decode bX12_init 720 = .ok (.iconst 0, 1) := by decide +kernel
theorem dX12_init_721 : decode bX12_init 721 = .ok (.iconst 0, 1) := by decide +kernel
theorem dX12_init_722 : decode bX12_init 722 = .ok (.invokestatic 156, 3) := by decide +kernel
theorem dX12_init_725 : decode bX12_init 725 = .ok (.lastore, 1) := by decide +kernel
theorem dX12_init_726 : decode bX12_init 726 = .ok (.aload_n 0, 1) := by decide +kernel
theorem dX12_init_727 : decode bX12_init 727 = .ok (.getfield 34, 3) := by decide +kernel
theorem dX12_init_730 : decode bX12_init 730 = .ok (.bipush 16, 2) := by decide +kernel
theorem dX12_init_732 : decode bX12_init 732 = .ok (.bipush 101, 2) := by decide +kernel
theorem dX12_init_734 : decode bX12_init 734 = .ok (.bipush 110, 2) := by decide +kernel
theorem dX12_init_736 : decode bX12_init 736 = .ok (.bipush 100, 2) := by decide +kernel
theorem dX12_init_738 : decode bX12_init 738 = .ok (.bipush 115, 2) := by decide +kernel
theorem dX12_init_740 : decode bX12_init 740 = .ok (.iconst 0, 1) := by decide +kernel
theorem dX12_init_741 : decode bX12_init 741 = .ok (.iconst 0, 1) := by decide +kernel
theorem dX12_init_742 : decode bX12_init 742 = .ok (.iconst 0, 1) := by decide +kernel
theorem dX12_init_743 : decode bX12_init 743 = .ok (.invokestatic 156, 3) := by decide +kernel
theorem dX12_init_746 : decode bX12_init 746 = .ok (.lastore, 1) := by decide +kernel
theorem dX12_init_747 : decode bX12_init 747 = .ok (.aload_n 0, 1) := by decide +kernel
theorem dX12_init_748 : decode bX12_init 748 = .ok (.getfield 34, 3) := by decide +kernel
theorem dX12_init_751 : decode bX12_init 751 = .ok (.bipush 17, 2) := by decide +kernel
theorem dX12_init_753 : decode bX12_init 753 = .ok (.bipush 116, 2) := by decide +kernel
theorem dX12_init_755 : decode bX12_init 755 = .ok (.bipush 105, 2) := by decide +kernel
theorem dX12_init_757 : decode bX12_init 757 = .ok (.bipush 114, 2) := by decide +kernel
theorem dX12_init_759 : decode bX12_init 759 = .ok (.bipush 101, 2) := by decide +kernel
theorem dX12_init_761 : decode bX12_init 761 = .ok (.bipush 100, 2) := by decide +kernel
theorem dX12_init_763 : decode bX12_init 763 = .ok (.iconst 0, 1) := by decide +kernel
theorem dX12_init_764 : decode bX12_init 764 = .ok (.iconst 0, 1) := by decide +kernel
theorem dX12_init_765 : decode bX12_init 765 = .ok (.invokestatic 156, 3) := by decide +kernel
theorem dX12_init_768 : decode bX12_init 768 = .ok (.lastore, 1) := by decide +kernel
theorem dX12_init_769 : decode bX12_init 769 = .ok (.aload_n 0, 1) := by decide +kernel
theorem dX12_init_770 : decode bX12_init 770 = .ok (.getfield 34, 3) := by decide +kernel
theorem dX12_init_773 : decode bX12_init 773 = .ok (.bipush 18, 2) := by decide +kernel
theorem dX12_init_775 : decode bX12_init 775 = .ok (.bipush 109, 2) := by decide +kernel
theorem dX12_init_777 : decode bX12_init 777 = .ok (.bipush 105, 2) := by decide +kernel
theorem dX12_init_779 : decode bX12_init 779 = .ok (.bipush 110, 2) := by decide +kernel
theorem dX12_init_781 : decode bX12_init 781 = .ok (.bipush 117, 2) := by decide +kernel
theorem dX12_init_783 : decode bX12_init 783 = .ok (.bipush 116, 2) := by decide +kernel
theorem dX12_init_785 : decode bX12_init 785 = .ok (.bipush 101, 2) := by decide +kernel
theorem dX12_init_787 : decode bX12_init 787 = .ok (.iconst 0, 1) := by decide +kernel
theorem dX12_init_788 : decode bX12_init 788 = .ok (.invokestatic 156, 3) := by decide +kernel
theorem dX12_init_791 : decode bX12_init 791 = .ok (.lastore, 1) := by decide +kernel
theorem dX12_init_792 : decode bX12_init 792 = .ok (.aload_n 0, 1) := by decide +kernel
theorem dX12_init_793 : decode bX12_init 793 = .ok (.getfield 34, 3) := by decide +kernel
theorem dX12_init_796 : decode bX12_init 796 = .ok (.bipush 19, 2) := by decide +kernel
theorem dX12_init_798 : decode bX12_init 798 = .ok (.bipush 119, 2) := by decide +kernel
theorem dX12_init_800 : decode bX12_init 800 = .ok (.bipush 104, 2) := by decide +kernel
theorem dX12_init_802 : decode bX12_init 802 = .ok (.bipush 105, 2) := by decide +kernel
theorem dX12_init_804 : decode bX12_init 804 = .ok (.bipush 99, 2) := by decide +kernel
theorem dX12_init_806 : decode bX12_init 806 = .ok (.bipush 104, 2) := by decide +kernel
theorem dX12_init_808 : decode bX12_init 808 = .ok (.iconst 0, 1) := by decide +kernel
theorem dX12_init_809 : decode bX12_init 809 = .ok (.iconst 0, 1) := by decide +kernel
theorem dX12_init_810 : decode bX12_init 810 = .ok (.invokestatic 156, 3) := by decide +kernel
theorem dX12_init_813 : decode bX12_init 813 = .ok (.lastore, 1) := by decide +kernel
theorem dX12_init_814 : decode bX12_init 814 = .ok (.aload_n 0, 1) := by decide +kernel
theorem dX12_init_815 : decode bX12_init 815 = .ok (.getfield 34, 3) := by decide +kernel
theorem dX12_init_818 : decode bX12_init 818 = .ok (.bipush 20, 2) := by decide +kernel
theorem dX12_init_820 : decode bX12_init 820 = .ok (.bipush 109, 2) := by decide +kernel
theorem dX12_init_822 : decode bX12_init 822 = .ok (.bipush 111, 2) := by decide +kernel
theorem dX12_init_824 : decode bX12_init 824 = .ok (.bipush 118, 2) := by decide +kernel
theorem dX12_init_826 : decode bX12_init 826 = .ok (.bipush 101, 2) := by decide +kernel
theorem dX12_init_828 : decode bX12_init 828 = .ok (.bipush 115, 2) := by decide +kernel
theorem dX12_init_830 : decode bX12_init 830 = .ok (.iconst 0, 1) := by decide +kernel
theorem dX12_init_831 : decode bX12_init 831 = .ok (.iconst 0, 1) := by decide +kernel
theorem dX12_init_832 : decode bX12_init 832 = .ok (.invokestatic 156, 3) := by decide +kernel
theorem dX12_init_835 : decode bX12_init 835 = .ok (.lastore, 1) := by decide +kernel
theorem dX12_init_836 : decode bX12_init 836 = .ok (.aload_n 0, 1) := by decide +kernel
theorem dX12_init_837 : decode bX12_init 837 = .ok (.getfield 34, 3) := by decide +kernel
theorem dX12_init_840 : decode bX12_init 840 = .ok (.bipush 21, 2) := by decide +kernel
theorem dX12_init_842 : decode bX12_init 842 = .ok (.bipush 99, 2) := by decide +kernel
theorem dX12_init_844 : decode bX12_init 844 = .ok (.bipush 97, 2) := by decide +kernel
theorem dX12_init_846 : decode bX12_init 846 = .ok (.bipush 108, 2) := by decide +kernel
theorem dX12_init_848 : decode bX12_init 848 = .ok (.bipush 108, 2) := by decide +kernel
theorem dX12_init_850 : decode bX12_init 850 = .ok (.bipush 101, 2) := by decide +kernel
theorem dX12_init_852 : decode bX12_init 852 = .ok (.bipush 100, 2) := by decide +kernel
theorem dX12_init_854 : decode bX12_init 854 = .ok (.iconst 0, 1) := by decide +kernel
theorem dX12_init_855 : decode bX12_init 855 = .ok (.invokestatic 156, 3) := by decide +kernel
theorem dX12_init_858 : decode bX12_init 858 = .ok (.lastore, 1) := by decide +kernel
theorem dX12_init_859 : decode bX12_init 859 = .ok (.aload_n 0, 1) := by decide +kernel
theorem dX12_init_860 : decode bX12_init 860 = .ok (.invokevirtual 160, 3) := by decide +kernel
theorem dX12_init_863 : decode bX12_init 863 = .ok (.aload_n 0, 1) := by decide +kernel
theorem dX12_init_864 : decode bX12_init 864 = .ok (.invokevirtual 163, 3) := by decide +kernel
theorem dX12_init_867 : decode bX12_init 867 = .ok (.aload_n 0, 1) := by decide +kernel
theorem dX12_init_868 : decode bX12_init 868 = .ok (.invokevirtual 166, 3) := by decide +kernel
theorem dX12_init_871 : decode bX12_init 871 = .ok (.return_, 1) := by decide +kernel
abbrev nX5 (i : Nat) : List (Nat × Nat) := []
abbrev lX5 (i : Nat) (L : List (Nat × Nat)) : List (Nat × Nat) := ((5, i) :: L)
def iX5 (i : Nat) (μ : Mm) : Mm := zrs (μ) 5 i [(1, 1)]
theorem hX5 {k : Kx} {i : Nat} {L : List (Nat × Nat)} : ∀ x ∈ lX5 i L, x ∈ L ∨ x ∈ nX5 i ∨ kad k x.1 x.2 = kad k 5 i := by
  intro x hx
  simp only [List.mem_cons, List.mem_append, List.not_mem_nil, or_false] at hx ⊢
  rcases hx with hx | hx
  · rw [hx]; exact Or.inr (Or.inr rfl)
  · exact Or.inl hx
abbrev nX6 (i : Nat) : List (Nat × Nat) := []
abbrev lX6 (i : Nat) (L : List (Nat × Nat)) : List (Nat × Nat) := ((6, i) :: L)
def iX6 (i : Nat) (μ : Mm) : Mm := zrs (μ) 6 i [(0, 1), (3, 1)]
theorem hX6 {k : Kx} {i : Nat} {L : List (Nat × Nat)} : ∀ x ∈ lX6 i L, x ∈ L ∨ x ∈ nX6 i ∨ kad k x.1 x.2 = kad k 6 i := by
  intro x hx
  simp only [List.mem_cons, List.mem_append, List.not_mem_nil, or_false] at hx ⊢
  rcases hx with hx | hx
  · rw [hx]; exact Or.inr (Or.inr rfl)
  · exact Or.inl hx
theorem dv6 : ∀ j, j < 4 → defaultValue (t6 j) = vp_V [.int 0, .int 0, .int 0, .int 0] j := by
  intro j hj
  match j with
  | 0 => rfl
  | 1 => rfl
  | 2 => rfl
  | 3 => rfl
  | _ + 4 => omega
abbrev nX3 (i : Nat) : List (Nat × Nat) := [(6, i)] ++ nX6 i ++ [(25, i)] ++ [(26, i)]
abbrev lX3 (i : Nat) (L : List (Nat × Nat)) : List (Nat × Nat) := ((3, i) :: ((26, i) :: ((25, i) :: (lX6 i L))))
def iX3 (i : Nat) (μ : Mm) : Mm := zrs (zr (zr (iX6 i (μ)) 25 i) 26 i) 3 i []
theorem hX3 {k : Kx} {i : Nat} {L : List (Nat × Nat)} : ∀ x ∈ lX3 i L, x ∈ L ∨ x ∈ nX3 i ∨ kad k x.1 x.2 = kad k 3 i := by
  intro x hx
  simp only [List.mem_cons, List.mem_append, List.not_mem_nil, or_false] at hx ⊢
  rcases hx with hx | hx | hx | hx | hx
  · rw [hx]; exact Or.inr (Or.inr rfl)
  · simp [hx]
  · simp [hx]
  · simp [hx]
  · exact Or.inl hx
theorem dv5 : ∀ j, j < 4 → defaultValue (t5 j) = vp_V [.int 0, .int 0, .int 0, .int 0] j := by
  intro j hj
  match j with
  | 0 => rfl
  | 1 => rfl
  | 2 => rfl
  | 3 => rfl
  | _ + 4 => omega
abbrev nX0 : List (Nat × Nat) := [(20, 0)] ++ [(5, 0)] ++ nX5 0 ++ [(5, 1)] ++ nX5 1 ++ [(5, 2)] ++ nX5 2 ++ [(5, 3)] ++ nX5 3
abbrev lX0 (L : List (Nat × Nat)) : List (Nat × Nat) := ((0, 0) :: ((20, 0) :: (lX5 3 (lX5 2 (lX5 1 (lX5 0 L))))))
def iX0 (μ : Mm) : Mm := zrs (iX5 3 (iX5 2 (iX5 1 (iX5 0 (μ))))) 0 0 []
theorem hX0 {k : Kx} {L : List (Nat × Nat)} : ∀ x ∈ lX0 L, x ∈ L ∨ x ∈ nX0 ∨ kad k x.1 x.2 = kad k 0 0 := by
  intro x hx
  have e : lX0 L = lX0 [] ++ L := rfl
  rw [e] at hx
  rcases List.mem_append.mp hx with h | h
  · have h9 : ∀ x ∈ lX0 [], x ∈ nX0 ∨ x = (0, 0) := by decide +kernel
    rcases h9 x h with h9 | h9
    · exact Or.inr (Or.inl h9)
    · rw [h9]; exact Or.inr (Or.inr rfl)
  · exact Or.inl h
abbrev nX1 : List (Nat × Nat) := [(21, 0)] ++ [(92, 0), (92, 1), (92, 2), (92, 3), (92, 4), (92, 5), (92, 6), (92, 7), (92, 8), (92, 9), (92, 10), (92, 11), (92, 12), (92, 13), (92, 14), (92, 15), (92, 16), (92, 17), (92, 18), (92, 19), (92, 20), (92, 21), (92, 22), (92, 23), (92, 24), (92, 25), (92, 26), (92, 27), (92, 28), (92, 29), (92, 30), (92, 31), (92, 32), (92, 33), (92, 34), (92, 35), (92, 36), (92, 37), (92, 38), (92, 39)] ++ [(22, 0)] ++ [(92, 40), (92, 41), (92, 42)] ++ [(23, 0)]
abbrev lX1 (L : List (Nat × Nat)) : List (Nat × Nat) := ((1, 0) :: ((23, 0) :: ((22, 0) :: ((List.range 3).map (fun j => (92, 40 + j)) ++ ((21, 0) :: ((List.range 40).map (fun j => (92, 0 + j)) ++ L))))))
def iX1 (μ : Mm) : Mm := zrs (zr (zrR (zrR (μ) 0 40) 40 3) 23 0) 1 0 []
theorem hX1 {k : Kx} {L : List (Nat × Nat)} : ∀ x ∈ lX1 L, x ∈ L ∨ x ∈ nX1 ∨ kad k x.1 x.2 = kad k 1 0 := by
  intro x hx
  have e : lX1 L = lX1 [] ++ L := rfl
  rw [e] at hx
  rcases List.mem_append.mp hx with h | h
  · have h9 : ∀ x ∈ lX1 [], x ∈ nX1 ∨ x = (1, 0) := by decide +kernel
    rcases h9 x h with h9 | h9
    · exact Or.inr (Or.inl h9)
    · rw [h9]; exact Or.inr (Or.inr rfl)
  · exact Or.inl h
abbrev nX7 : List (Nat × Nat) := [(29, 0)] ++ [(30, 0)] ++ [(31, 0)] ++ [(32, 0)] ++ [(33, 0)]
abbrev lX7 (L : List (Nat × Nat)) : List (Nat × Nat) := ((7, 0) :: ((33, 0) :: ((32, 0) :: ((31, 0) :: ((30, 0) :: ((29, 0) :: L))))))
def iX7 (μ : Mm) : Mm := zrs (zr (zr (zr (zr (zr (μ) 29 0) 30 0) 31 0) 32 0) 33 0) 7 0 []
theorem hX7 {k : Kx} {L : List (Nat × Nat)} : ∀ x ∈ lX7 L, x ∈ L ∨ x ∈ nX7 ∨ kad k x.1 x.2 = kad k 7 0 := by
  intro x hx
  have e : lX7 L = lX7 [] ++ L := rfl
  rw [e] at hx
  rcases List.mem_append.mp hx with h | h
  · have h9 : ∀ x ∈ lX7 [], x ∈ nX7 ∨ x = (7, 0) := by decide +kernel
    rcases h9 x h with h9 | h9
    · exact Or.inr (Or.inl h9)
    · rw [h9]; exact Or.inr (Or.inr rfl)
  · exact Or.inl h
abbrev nX9 : List (Nat × Nat) := [(41, 0)] ++ [(42, 0)] ++ [(43, 0)] ++ [(5, 8)] ++ nX5 8 ++ [(44, 0)] ++ [(45, 0)]
abbrev lX9 (L : List (Nat × Nat)) : List (Nat × Nat) := ((9, 0) :: ((45, 0) :: ((44, 0) :: (lX5 8 ((43, 0) :: ((42, 0) :: ((41, 0) :: L)))))))
def iX9 (μ : Mm) : Mm := zrs (zr (zr (iX5 8 (zr (zr (zr (μ) 41 0) 42 0) 43 0)) 44 0) 45 0) 9 0 []
theorem hX9 {k : Kx} {L : List (Nat × Nat)} : ∀ x ∈ lX9 L, x ∈ L ∨ x ∈ nX9 ∨ kad k x.1 x.2 = kad k 9 0 := by
  intro x hx
  have e : lX9 L = lX9 [] ++ L := rfl
  rw [e] at hx
  rcases List.mem_append.mp hx with h | h
  · have h9 : ∀ x ∈ lX9 [], x ∈ nX9 ∨ x = (9, 0) := by decide +kernel
    rcases h9 x h with h9 | h9
    · exact Or.inr (Or.inl h9)
    · rw [h9]; exact Or.inr (Or.inr rfl)
  · exact Or.inl h
abbrev nX4 : List (Nat × Nat) := [(27, 0)] ++ [(28, 0)] ++ [(5, 9)] ++ nX5 9
abbrev lX4 (L : List (Nat × Nat)) : List (Nat × Nat) := ((4, 0) :: (lX5 9 ((28, 0) :: ((27, 0) :: L))))
def iX4 (μ : Mm) : Mm := zrs (iX5 9 (zr (zr (μ) 27 0) 28 0)) 4 0 [(1, (-1))]
theorem hX4 {k : Kx} {L : List (Nat × Nat)} : ∀ x ∈ lX4 L, x ∈ L ∨ x ∈ nX4 ∨ kad k x.1 x.2 = kad k 4 0 := by
  intro x hx
  have e : lX4 L = lX4 [] ++ L := rfl
  rw [e] at hx
  rcases List.mem_append.mp hx with h | h
  · have h9 : ∀ x ∈ lX4 [], x ∈ nX4 ∨ x = (4, 0) := by decide +kernel
    rcases h9 x h with h9 | h9
    · exact Or.inr (Or.inl h9)
    · rw [h9]; exact Or.inr (Or.inr rfl)
  · exact Or.inl h
abbrev nX2 : List (Nat × Nat) := [(24, 0)] ++ [(5, 7)] ++ nX5 7
abbrev lX2 (L : List (Nat × Nat)) : List (Nat × Nat) := ((2, 0) :: (lX5 7 ((24, 0) :: L)))
def iX2 (μ : Mm) : Mm := zrs (iX5 7 (zr (μ) 24 0)) 2 0 [(3, 1), (1, (-1))]
theorem hX2 {k : Kx} {L : List (Nat × Nat)} : ∀ x ∈ lX2 L, x ∈ L ∨ x ∈ nX2 ∨ kad k x.1 x.2 = kad k 2 0 := by
  intro x hx
  have e : lX2 L = lX2 [] ++ L := rfl
  rw [e] at hx
  rcases List.mem_append.mp hx with h | h
  · have h9 : ∀ x ∈ lX2 [], x ∈ nX2 ∨ x = (2, 0) := by decide +kernel
    rcases h9 x h with h9 | h9
    · exact Or.inr (Or.inl h9)
    · rw [h9]; exact Or.inr (Or.inr rfl)
  · exact Or.inl h
theorem dv3 : ∀ j, j < 4 → defaultValue (t3 j) = vp_V [.int 0, .null, .null, .null] j := by
  intro j hj
  match j with
  | 0 => rfl
  | 1 => rfl
  | 2 => rfl
  | 3 => rfl
  | _ + 4 => omega
abbrev nX8_0 : List (Nat × Nat) := [(34, 0)] ++ [(3, 0)] ++ nX3 0 ++ [(3, 1)] ++ nX3 1 ++ [(3, 2)] ++ nX3 2 ++ [(3, 3)] ++ nX3 3 ++ [(35, 0)] ++ [(3, 4)] ++ nX3 4 ++ [(3, 5)] ++ nX3 5 ++ [(3, 6)] ++ nX3 6 ++ [(3, 7)] ++ nX3 7 ++ [(3, 8)] ++ nX3 8 ++ [(36, 0)] ++ [(37, 0)] ++ [(38, 0)] ++ [(39, 0)] ++ [(40, 0)] ++ [(5, 5)] ++ nX5 5
abbrev lX8_0 (L : List (Nat × Nat)) : List (Nat × Nat) := ((8, 0) :: (lX5 5 ((40, 0) :: ((39, 0) :: ((38, 0) :: ((37, 0) :: ((36, 0) :: ((35, 0) :: (lX3 8 (lX3 7 (lX3 6 (lX3 5 (lX3 4 ((34, 0) :: (lX3 3 (lX3 2 (lX3 1 (lX3 0 L))))))))))))))))))
def iX8_0 (μ : Mm) : Mm := zrs (iX5 5 (zr (zr (zr (zr (zr (iX3 8 (iX3 7 (iX3 6 (iX3 5 (iX3 4 (iX3 3 (iX3 2 (iX3 1 (iX3 0 (μ)))))))))) 36 0) 37 0) 38 0) 39 0) 40 0)) 8 0 []
theorem hX8_0 {k : Kx} {L : List (Nat × Nat)} : ∀ x ∈ lX8_0 L, x ∈ L ∨ x ∈ nX8_0 ∨ kad k x.1 x.2 = kad k 8 0 := by
  intro x hx
  have e : lX8_0 L = lX8_0 [] ++ L := rfl
  rw [e] at hx
  rcases List.mem_append.mp hx with h | h
  · have h9 : ∀ x ∈ lX8_0 [], x ∈ nX8_0 ∨ x = (8, 0) := by decide +kernel
    rcases h9 x h with h9 | h9
    · exact Or.inr (Or.inl h9)
    · rw [h9]; exact Or.inr (Or.inr rfl)
  · exact Or.inl h
abbrev nX8_1 : List (Nat × Nat) := [(34, 1)] ++ [(3, 9)] ++ nX3 9 ++ [(3, 10)] ++ nX3 10 ++ [(3, 11)] ++ nX3 11 ++ [(3, 12)] ++ nX3 12 ++ [(35, 1)] ++ [(3, 13)] ++ nX3 13 ++ [(3, 14)] ++ nX3 14 ++ [(3, 15)] ++ nX3 15 ++ [(3, 16)] ++ nX3 16 ++ [(3, 17)] ++ nX3 17 ++ [(36, 1)] ++ [(37, 1)] ++ [(38, 1)] ++ [(39, 1)] ++ [(40, 1)] ++ [(5, 6)] ++ nX5 6
abbrev lX8_1 (L : List (Nat × Nat)) : List (Nat × Nat) := ((8, 1) :: (lX5 6 ((40, 1) :: ((39, 1) :: ((38, 1) :: ((37, 1) :: ((36, 1) :: ((35, 1) :: (lX3 17 (lX3 16 (lX3 15 (lX3 14 (lX3 13 ((34, 1) :: (lX3 12 (lX3 11 (lX3 10 (lX3 9 L))))))))))))))))))
def iX8_1 (μ : Mm) : Mm := zrs (iX5 6 (zr (zr (zr (zr (zr (iX3 17 (iX3 16 (iX3 15 (iX3 14 (iX3 13 (iX3 12 (iX3 11 (iX3 10 (iX3 9 (μ)))))))))) 36 1) 37 1) 38 1) 39 1) 40 1)) 8 1 []
theorem hX8_1 {k : Kx} {L : List (Nat × Nat)} : ∀ x ∈ lX8_1 L, x ∈ L ∨ x ∈ nX8_1 ∨ kad k x.1 x.2 = kad k 8 1 := by
  intro x hx
  have e : lX8_1 L = lX8_1 [] ++ L := rfl
  rw [e] at hx
  rcases List.mem_append.mp hx with h | h
  · have h9 : ∀ x ∈ lX8_1 [], x ∈ nX8_1 ∨ x = (8, 1) := by decide +kernel
    rcases h9 x h with h9 | h9
    · exact Or.inr (Or.inl h9)
    · rw [h9]; exact Or.inr (Or.inr rfl)
  · exact Or.inl h
abbrev nX10 : List (Nat × Nat) := [(46, 0)] ++ [(47, 0)]
abbrev lX10 (L : List (Nat × Nat)) : List (Nat × Nat) := ((10, 0) :: ((47, 0) :: ((46, 0) :: L)))
def iX10 (μ : Mm) : Mm := zrs (zr (zr (μ) 46 0) 47 0) 10 0 []
theorem hX10 {k : Kx} {L : List (Nat × Nat)} : ∀ x ∈ lX10 L, x ∈ L ∨ x ∈ nX10 ∨ kad k x.1 x.2 = kad k 10 0 := by
  intro x hx
  have e : lX10 L = lX10 [] ++ L := rfl
  rw [e] at hx
  rcases List.mem_append.mp hx with h | h
  · have h9 : ∀ x ∈ lX10 [], x ∈ nX10 ∨ x = (10, 0) := by decide +kernel
    rcases h9 x h with h9 | h9
    · exact Or.inr (Or.inl h9)
    · rw [h9]; exact Or.inr (Or.inr rfl)
  · exact Or.inl h
abbrev nX12 : List (Nat × Nat) := [(48, 0)] ++ [(49, 0)] ++ [(50, 0)] ++ [(51, 0)] ++ [(52, 0)] ++ [(53, 0)] ++ [(54, 0)] ++ [(55, 0)] ++ [(56, 0)] ++ [(57, 0)] ++ [(58, 0)] ++ [(59, 0)] ++ [(60, 0)] ++ [(61, 0)] ++ [(62, 0)] ++ [(63, 0)] ++ [(64, 0)] ++ [(65, 0)] ++ [(66, 0)] ++ [(67, 0)] ++ [(68, 0)] ++ [(69, 0)] ++ [(70, 0)] ++ [(71, 0)] ++ [(72, 0)] ++ [(73, 0)] ++ [(74, 0)] ++ [(75, 0)] ++ [(76, 0)] ++ [(77, 0)] ++ [(78, 0)] ++ [(79, 0)] ++ [(80, 0)] ++ [(81, 0)] ++ [(82, 0)] ++ [(83, 0)] ++ [(84, 0)] ++ [(85, 0)] ++ [(86, 0)] ++ [(87, 0)] ++ [(88, 0)] ++ [(89, 0)] ++ [(90, 0)] ++ [(91, 0)]
abbrev lX12 (L : List (Nat × Nat)) : List (Nat × Nat) := ((12, 0) :: ((91, 0) :: ((90, 0) :: ((89, 0) :: ((88, 0) :: ((87, 0) :: ((86, 0) :: ((85, 0) :: ((84, 0) :: ((83, 0) :: ((82, 0) :: ((81, 0) :: ((80, 0) :: ((79, 0) :: ((78, 0) :: ((77, 0) :: ((76, 0) :: ((75, 0) :: ((74, 0) :: ((73, 0) :: ((72, 0) :: ((71, 0) :: ((70, 0) :: ((69, 0) :: ((68, 0) :: ((67, 0) :: ((66, 0) :: ((65, 0) :: ((64, 0) :: ((63, 0) :: ((62, 0) :: ((61, 0) :: ((60, 0) :: ((59, 0) :: ((58, 0) :: ((57, 0) :: ((56, 0) :: ((55, 0) :: ((54, 0) :: ((53, 0) :: ((52, 0) :: ((51, 0) :: ((50, 0) :: ((49, 0) :: ((48, 0) :: L)))))))))))))))))))))))))))))))))))))))))))))
def iX12 (μ : Mm) : Mm := zrs (zr (zr (zr (zr (zr (zr (zr (zr (zr (zr (zr (zr (zr (zr (zr (zr (zr (zr (zr (zr (zr (zr (zr (zr (zr (zr (zr (zr (zr (zr (zr (zr (zr (zr (zr (zr (zr (zr (zr (zr (zr (zr (zr (zr (μ) 48 0) 49 0) 50 0) 51 0) 52 0) 53 0) 54 0) 55 0) 56 0) 57 0) 58 0) 59 0) 60 0) 61 0) 62 0) 63 0) 64 0) 65 0) 66 0) 67 0) 68 0) 69 0) 70 0) 71 0) 72 0) 73 0) 74 0) 75 0) 76 0) 77 0) 78 0) 79 0) 80 0) 81 0) 82 0) 83 0) 84 0) 85 0) 86 0) 87 0) 88 0) 89 0) 90 0) 91 0) 12 0 [(17, (-1))]
theorem hX12 {k : Kx} {L : List (Nat × Nat)} : ∀ x ∈ lX12 L, x ∈ L ∨ x ∈ nX12 ∨ kad k x.1 x.2 = kad k 12 0 := by
  intro x hx
  have e : lX12 L = lX12 [] ++ L := rfl
  rw [e] at hx
  rcases List.mem_append.mp hx with h | h
  · have h9 : ∀ x ∈ lX12 [], x ∈ nX12 ∨ x = (12, 0) := by decide +kernel
    rcases h9 x h with h9 | h9
    · exact Or.inr (Or.inl h9)
    · rw [h9]; exact Or.inr (Or.inr rfl)
  · exact Or.inl h
theorem dv7 : ∀ j, j < 11 → defaultValue (t7 j) = vp_V [.int 0, .int 0, .int 0, .int 0, .int 0, .long 0, .null, .null, .null, .null, .null] j := by
  intro j hj
  match j with
  | 0 => rfl
  | 1 => rfl
  | 2 => rfl
  | 3 => rfl
  | 4 => rfl
  | 5 => rfl
  | 6 => rfl
  | 7 => rfl
  | 8 => rfl
  | 9 => rfl
  | 10 => rfl
  | _ + 11 => omega
theorem dv8 : ∀ j, j < 13 → defaultValue (t8 j) = vp_V [.int 0, .int 0, .int 0, .null, .null, .int 0, .null, .int 0, .null, .null, .null, .null, .null] j := by
  intro j hj
  match j with
  | 0 => rfl
  | 1 => rfl
  | 2 => rfl
  | 3 => rfl
  | 4 => rfl
  | 5 => rfl
  | 6 => rfl
  | 7 => rfl
  | 8 => rfl
  | 9 => rfl
  | 10 => rfl
  | 11 => rfl
  | 12 => rfl
  | _ + 13 => omega
theorem dv2 : ∀ j, j < 10 → defaultValue (t2 j) = vp_V [.int 0, .int 0, .null, .null, .int 0, .int 0, .null, .int 0, .int 0, .null] j := by
  intro j hj
  match j with
  | 0 => rfl
  | 1 => rfl
  | 2 => rfl
  | 3 => rfl
  | 4 => rfl
  | 5 => rfl
  | 6 => rfl
  | 7 => rfl
  | 8 => rfl
  | 9 => rfl
  | _ + 10 => omega
theorem dv0 : ∀ j, j < 3 → defaultValue (t0 j) = vp_V [.null, .int 0, .int 0] j := by
  intro j hj
  match j with
  | 0 => rfl
  | 1 => rfl
  | 2 => rfl
  | _ + 3 => omega
theorem dv1 : ∀ j, j < 5 → defaultValue (t1 j) = vp_V [.int 0, .int 0, .null, .null, .null] j := by
  intro j hj
  match j with
  | 0 => rfl
  | 1 => rfl
  | 2 => rfl
  | 3 => rfl
  | 4 => rfl
  | _ + 5 => omega
theorem dv9 : ∀ j, j < 9 → defaultValue (t9 j) = vp_V [.int 0, .int 0, .int 0, .null, .null, .null, .null, .null, .null] j := by
  intro j hj
  match j with
  | 0 => rfl
  | 1 => rfl
  | 2 => rfl
  | 3 => rfl
  | 4 => rfl
  | 5 => rfl
  | 6 => rfl
  | 7 => rfl
  | 8 => rfl
  | _ + 9 => omega
abbrev nX11 : List (Nat × Nat) := [(7, 0)] ++ nX7 ++ [(8, 0)] ++ nX8_0 ++ [(8, 1)] ++ nX8_1 ++ [(2, 0)] ++ nX2 ++ [(0, 0)] ++ nX0 ++ [(1, 0)] ++ nX1 ++ [(9, 0)] ++ nX9 ++ [(5, 4)] ++ nX5 4 ++ [(6, 18)] ++ nX6 18 ++ [(6, 19)] ++ nX6 19
abbrev lX11 (L : List (Nat × Nat)) : List (Nat × Nat) := ((11, 0) :: (lX6 19 (lX6 18 (lX5 4 (lX9 (lX1 (lX0 (lX2 (lX8_1 (lX8_0 (lX7 L)))))))))))
def iX11 (m2 : Mm) : Mm := zrs (iX6 19 (iX6 18 (iX5 4 (iX9 (iX1 (iX0 (iX2 (m2)))))))) 11 0 [(3, 1)]
theorem hX11 {k : Kx} {L : List (Nat × Nat)} : ∀ x ∈ lX11 L, x ∈ L ∨ x ∈ nX11 ∨ kad k x.1 x.2 = kad k 11 0 := by
  intro x hx
  have e : lX11 L = lX11 [] ++ L := rfl
  rw [e] at hx
  rcases List.mem_append.mp hx with h | h
  · have h9 : ∀ x ∈ lX11 [], x ∈ nX11 ∨ x = (11, 0) := by decide +kernel
    rcases h9 x h with h9 | h9
    · exact Or.inr (Or.inl h9)
    · rw [h9]; exact Or.inr (Or.inr rfl)
  · exact Or.inl h
set_option maxRecDepth 20000 in
set_option maxHeartbeats 4000000 in
theorem sX8_init {z : Zx} {k : Kx} {F : Nat} {this : Nat} {μ μ' : Mm} (hk : kok k) (e_this : kex k 8 this) (hx : Ok z k bX8_init 2 "RopeDance$Text" none 3 (44, 691)) (hf : fX8_init F this μ = some μ') : Gw z k 2 (k, (44, 691), none, none, μ') (44, 691) 126 μ [(0, .ref (kad k 8 this))] [] := by
  unfold fX8_init at hf
  refine r_aloadn hx 0 rfl rfl dX8_init_126 ?_
  obtain ⟨μ2, c1, hf⟩ := f_bd1 hf
  refine r_callV hx (As := []) (rest := []) (st1 := []) (c := 8) (i := this) (TT := T8) (N := 13) MK_X8_clear rfl wi_X8_clear we_X8_clear wm_X8_48 ⟨Nat.le_refl _, Nat.le_refl _⟩ (cX8_clear hk e_this c1) e_this (Nat.le_of_ble_eq_true rfl) rfl rfl (Nat.le_of_ble_eq_true rfl) rfl dX8_init_127 (fun hb3 => ?_)
  exact r_vret hx hf dX8_init_130
set_option maxRecDepth 20000 in
set_option maxHeartbeats 4000000 in
theorem sX10_init {z : Zx} {k : Kx} {F : Nat} {μ μ' : Mm} (hk : kok k) (e_this : kex k 10 0) (hx : Ok z k bX10_init 3 "RopeDance$Unwinding" none 2 (2, 9900)) (hf : fX10_init F μ = some μ') : Gw z k 3 (k, (2, 9900), none, none, μ') (2, 9900) 22 μ [(0, .ref (kad k 10 0))] [] := by
  have L43 : ∀ (K24 : Int32 → Mm → Option (Mm)) (HK24 : ∀ (v1 : Int32) (μ : Mm) (e_v0 : kex k 10 0), K24 v1 μ = some μ' → Gw z k 3 (k, (2, 9900), none, none, μ') (2, 9900) 24 μ [(0, .ref (kad k 10 0)), (1, .int v1)] []) (n : Nat) (v1 : Int32) (v2 : Int32) (μ : Mm) (e_v0 : kex k 10 0), fX10_init_L43 F K24 n v1 v2 μ = some μ' → Gw z k 3 (k, (2, 9900), none, none, μ') (2, 9900) 43 μ [(0, .ref (kad k 10 0)), (1, .int v1), (2, .int v2)] [] := by
    intro K24 HK24 n
    induction n with
    | zero =>
      intro v1 v2 μ e_v0 hf
      exact f_no (show (none : Option (Mm)) = _ from hf)
    | succ n ih =>
      intro v1 v2 μ e_v0 hf
      rw [fX10_init_L43] at hf
      refine r_iloadn hx 2 rfl rfl dX10_init_43 ?_
      refine r_iloadn hx 1 rfl rfl dX10_init_44 ?_
      refine r_icge (tgt := 88) hx rfl dX10_init_45 (fun q8 => ?_) (fun q8 => ?_)
      · have hf := (f_ite hf).1 q8
        refine r_iinc (lv' := [(1, .int (v1 + 1)), (0, .ref (kad k 10 0)), (2, .int v2)]) hx 1 rfl (congrArg (fun y => v1 + y) ci_1) (Nat.le_of_ble_eq_true rfl) rfl dX10_init_88 ?_
        refine r_goto (tgt := 24) hx rfl dX10_init_91 ?_
        refine r_sub [1, 0] rfl ?_
        exact HK24 (v1 + 1) μ e_v0 hf
      · have hf := (f_ite hf).2 q8
        refine r_aloadn hx 0 rfl rfl dX10_init_48 ?_
        refine r_getR hx (c' := 46) (i' := 0) FK10_0 e_v0 rfl wf_X10_11 dX10_init_49 (fun e9 => ?_)
        refine r_iloadn hx 1 rfl rfl dX10_init_52 ?_
        refine r_iloadn hx 2 rfl rfl dX10_init_53 ?_
        obtain ⟨r12, μ11, c10, hf⟩ := f_bd2 hf
        refine r_callS hx (As := [.int v1, .int v2]) (rest := [.ref (kad k 46 0)]) (st1 := [.int r12, .ref (kad k 46 0)]) MK_X10_at ws_X10_at wm_X10_20 ⟨Nat.le_refl _, Nat.le_refl _⟩ (cX10_at hk c10) (Nat.le_of_ble_eq_true rfl) rfl rfl (Nat.le_of_ble_eq_true rfl) rfl dX10_init_54 (fun hb13 => ?_)
        refine r_iconst hx ci_1 dX10_init_57 ?_
        refine r_aloadn hx 0 rfl rfl dX10_init_58 ?_
        refine r_iloadn hx 1 rfl rfl dX10_init_59 ?_
        refine r_iloadn hx 2 rfl rfl dX10_init_60 ?_
        obtain ⟨r16, μ15, c14, hf⟩ := f_bd2 hf
        refine r_callV hx (As := [.int v1, .int v2]) (rest := [.int 1, .int r12, .ref (kad k 46 0)]) (st1 := [.int r16, .int 1, .int r12, .ref (kad k 46 0)]) (c := 10) (i := 0) (TT := T10) (N := 2) MK_X10_fewest rfl wi_X10_fewest we_X10_fewest wm_X10_24 ⟨Nat.le_refl _, Nat.le_refl _⟩ (cX10_fewest hk e_v0 c14) e_v0 (Nat.le_of_ble_eq_true rfl) rfl rfl (Nat.le_of_ble_eq_true rfl) rfl dX10_init_61 (fun hb17 => ?_)
        refine r_iadd hx dX10_init_64 ?_
        obtain ⟨b18, hf⟩ := f_chk hf
        refine r_iast hx (by decide) rfl e9 b18 rfl dX10_init_65 ?_
        refine r_aloadn hx 0 rfl rfl dX10_init_66 ?_
        refine r_getR hx (c' := 47) (i' := 0) FK10_1 e_v0 rfl wf_X10_17 dX10_init_67 (fun e19 => ?_)
        refine r_iloadn hx 1 rfl rfl dX10_init_70 ?_
        refine r_iloadn hx 2 rfl rfl dX10_init_71 ?_
        obtain ⟨r22, μ21, c20, hf⟩ := f_bd2 hf
        refine r_callS hx (As := [.int v1, .int v2]) (rest := [.ref (kad k 47 0)]) (st1 := [.int r22, .ref (kad k 47 0)]) MK_X10_at ws_X10_at wm_X10_20 ⟨Nat.le_refl _, Nat.le_refl _⟩ (cX10_at hk c20) (Nat.le_of_ble_eq_true rfl) rfl rfl (Nat.le_of_ble_eq_true rfl) rfl dX10_init_72 (fun hb23 => ?_)
        refine r_aloadn hx 0 rfl rfl dX10_init_75 ?_
        refine r_iloadn hx 1 rfl rfl dX10_init_76 ?_
        refine r_iloadn hx 2 rfl rfl dX10_init_77 ?_
        obtain ⟨r26, μ25, c24, hf⟩ := f_bd2 hf
        refine r_callV hx (As := [.int v1, .int v2]) (rest := [.int r22, .ref (kad k 47 0)]) (st1 := [.int r26, .int r22, .ref (kad k 47 0)]) (c := 10) (i := 0) (TT := T10) (N := 2) MK_X10_howMany rfl wi_X10_howMany we_X10_howMany wm_X10_27 ⟨Nat.le_refl _, Nat.le_refl _⟩ (cX10_howMany hk e_v0 c24) e_v0 (Nat.le_of_ble_eq_true rfl) rfl rfl (Nat.le_of_ble_eq_true rfl) rfl dX10_init_78 (fun hb27 => ?_)
        obtain ⟨b28, hf⟩ := f_chk hf
        refine r_iast hx (by decide) rfl e19 b28 rfl dX10_init_81 ?_
        refine r_iinc (lv' := [(2, .int (v2 + 1)), (0, .ref (kad k 10 0)), (1, .int v1)]) hx 2 rfl (congrArg (fun y => v2 + y) ci_1) (Nat.le_of_ble_eq_true rfl) rfl dX10_init_82 ?_
        refine r_goto (tgt := 43) hx rfl dX10_init_85 ?_
        refine r_sub [1, 2, 0] rfl ?_
        exact ih v1 (v2 + 1) (si μ25 47 0 r22.toNatClampNeg r26) e_v0 hf
  have L24 : ∀ (n : Nat) (v1 : Int32) (μ : Mm) (e_v0 : kex k 10 0), fX10_init_L24 F n v1 μ = some μ' → Gw z k 3 (k, (2, 9900), none, none, μ') (2, 9900) 24 μ [(0, .ref (kad k 10 0)), (1, .int v1)] [] := by
    intro  n
    induction n with
    | zero =>
      intro v1 μ e_v0 hf
      exact f_no (show (none : Option (Mm)) = _ from hf)
    | succ n ih =>
      intro v1 μ e_v0 hf
      rw [fX10_init_L24] at hf
      refine r_iloadn hx 1 rfl rfl dX10_init_24 ?_
      refine r_bipush hx cb_99 dX10_init_25 ?_
      refine r_icgt (tgt := 94) hx rfl dX10_init_27 (fun q1 => ?_) (fun q1 => ?_)
      · have hf := (f_ite hf).1 q1
        exact r_vret hx hf dX10_init_94
      · have hf := (f_ite hf).2 q1
        refine r_aloadn hx 0 rfl rfl dX10_init_30 ?_
        refine r_getR hx (c' := 47) (i' := 0) FK10_1 e_v0 rfl wf_X10_17 dX10_init_31 (fun e2 => ?_)
        refine r_iloadn hx 1 rfl rfl dX10_init_34 ?_
        refine r_iconst hx ci_0 dX10_init_35 ?_
        obtain ⟨r5, μ4, c3, hf⟩ := f_bd2 hf
        refine r_callS hx (As := [.int v1, .int 0]) (rest := [.ref (kad k 47 0)]) (st1 := [.int r5, .ref (kad k 47 0)]) MK_X10_at ws_X10_at wm_X10_20 ⟨Nat.le_refl _, Nat.le_refl _⟩ (cX10_at hk c3) (Nat.le_of_ble_eq_true rfl) rfl rfl (Nat.le_of_ble_eq_true rfl) rfl dX10_init_36 (fun hb6 => ?_)
        refine r_iconst hx ci_1 dX10_init_39 ?_
        obtain ⟨b7, hf⟩ := f_chk hf
        refine r_iast hx (by decide) rfl e2 b7 rfl dX10_init_40 ?_
        refine r_iconst hx ci_1 dX10_init_41 ?_
        refine r_istoren (lv' := [(2, .int 1), (0, .ref (kad k 10 0)), (1, .int v1)]) hx rfl (Nat.le_of_ble_eq_true rfl) rfl dX10_init_42 ?_
        refine r_sub [1, 2, 0] rfl ?_
        exact L43 _ ih F v1 1 (si μ4 47 0 r5.toNatClampNeg 1) e_v0 hf
  unfold fX10_init at hf
  refine r_iconst hx ci_1 dX10_init_22 ?_
  refine r_istoren (lv' := [(1, .int 1), (0, .ref (kad k 10 0))]) hx rfl (Nat.le_of_ble_eq_true rfl) rfl dX10_init_23 ?_
  refine r_sub [1, 0] rfl ?_
  exact L24 F 1 μ e_this hf
set_option maxRecDepth 20000 in
set_option maxHeartbeats 4000000 in
theorem sX12_init {z : Zx} {k : Kx} {F : Nat} {μ μ' : Mm} (hk : kok k) (e_this : kex k 12 0) (hx : Ok z k bX12_init 1 "RopeDanceModel" none 5 (44, 130149)) (hf : fX12_init F μ = some μ') : Gw z k 1 (k, (44, 130149), none, none, μ') (44, 130149) 378 μ [(0, .ref (kad k 12 0))] [] := by
  unfold fX12_init at hf
  refine r_aloadn hx 0 rfl rfl dX12_init_378 ?_
  refine r_iconst hx ci_0 dX12_init_379 ?_
  obtain ⟨μ2, c1, hf⟩ := f_bd1 hf
  refine r_callV hx (As := [.int 0]) (rest := []) (st1 := []) (c := 12) (i := 0) (TT := T12) (N := 75) MK_X12_plain rfl wi_X12_plain we_X12_plain wm_X12_152 ⟨Nat.le_refl _, Nat.le_refl _⟩ (cX12_plain hk e_this c1) e_this (Nat.le_of_ble_eq_true rfl) rfl rfl (Nat.le_of_ble_eq_true rfl) rfl dX12_init_380 (fun hb3 => ?_)
  refine r_aloadn hx 0 rfl rfl dX12_init_383 ?_
  refine r_iconst hx ci_1 dX12_init_384 ?_
  obtain ⟨μ5, c4, hf⟩ := f_bd1 hf
  refine r_callV hx (As := [.int 1]) (rest := []) (st1 := []) (c := 12) (i := 0) (TT := T12) (N := 75) MK_X12_plain rfl wi_X12_plain we_X12_plain wm_X12_152 ⟨Nat.le_refl _, Nat.le_refl _⟩ (cX12_plain hk e_this c4) e_this (Nat.le_of_ble_eq_true rfl) rfl rfl (Nat.le_of_ble_eq_true rfl) rfl dX12_init_385 (fun hb6 => ?_)
  refine r_aloadn hx 0 rfl rfl dX12_init_388 ?_
  refine r_getR hx (c' := 54) (i' := 0) FK12_9 e_this rfl wf_X12_34 dX12_init_389 (fun e7 => ?_)
  refine r_iconst hx ci_0 dX12_init_392 ?_
  refine r_bipush hx cb_115 dX12_init_393 ?_
  refine r_bipush hx cb_113 dX12_init_395 ?_
  refine r_bipush hx cb_117 dX12_init_397 ?_
  refine r_bipush hx cb_97 dX12_init_399 ?_
  refine r_bipush hx cb_114 dX12_init_401 ?_
  refine r_bipush hx cb_101 dX12_init_403 ?_
  refine r_iconst hx ci_0 dX12_init_405 ?_
  obtain ⟨r10, μ9, c8, hf⟩ := f_bd2 hf
  refine r_callS hx (As := [.int 115, .int 113, .int 117, .int 97, .int 114, .int 101, .int 0]) (rest := [.int 0, .ref (kad k 54 0)]) (st1 := [.long r10, .int 0, .ref (kad k 54 0)]) MK_X12_letters ws_X12_letters wm_X12_156 ⟨Nat.le_refl _, Nat.le_refl _⟩ (cX12_letters hk c8) (Nat.le_of_ble_eq_true rfl) rfl rfl (Nat.le_of_ble_eq_true rfl) rfl dX12_init_406 (fun hb11 => ?_)
  refine r_last hx (by decide) rfl e7 (by decide) ti_0 dX12_init_409 ?_
  refine r_aloadn hx 0 rfl rfl dX12_init_410 ?_
  refine r_getR hx (c' := 54) (i' := 0) FK12_9 e_this rfl wf_X12_34 dX12_init_411 (fun e12 => ?_)
  refine r_iconst hx ci_1 dX12_init_414 ?_
  refine r_bipush hx cb_102 dX12_init_415 ?_
  refine r_bipush hx cb_105 dX12_init_417 ?_
  refine r_bipush hx cb_103 dX12_init_419 ?_
  refine r_bipush hx cb_117 dX12_init_421 ?_
  refine r_bipush hx cb_114 dX12_init_423 ?_
  refine r_bipush hx cb_101 dX12_init_425 ?_
  refine r_iconst hx ci_0 dX12_init_427 ?_
  obtain ⟨r15, μ14, c13, hf⟩ := f_bd2 hf
  refine r_callS hx (As := [.int 102, .int 105, .int 103, .int 117, .int 114, .int 101, .int 0]) (rest := [.int 1, .ref (kad k 54 0)]) (st1 := [.long r15, .int 1, .ref (kad k 54 0)]) MK_X12_letters ws_X12_letters wm_X12_156 ⟨Nat.le_refl _, Nat.le_refl _⟩ (cX12_letters hk c13) (Nat.le_of_ble_eq_true rfl) rfl rfl (Nat.le_of_ble_eq_true rfl) rfl dX12_init_428 (fun hb16 => ?_)
  refine r_last hx (by decide) rfl e12 (by decide) ti_1 dX12_init_431 ?_
  refine r_aloadn hx 0 rfl rfl dX12_init_432 ?_
  refine r_getR hx (c' := 54) (i' := 0) FK12_9 e_this rfl wf_X12_34 dX12_init_433 (fun e17 => ?_)
  refine r_iconst hx ci_2 dX12_init_436 ?_
  refine r_bipush hx cb_116 dX12_init_437 ?_
  refine r_bipush hx cb_105 dX12_init_439 ?_
  refine r_bipush hx cb_114 dX12_init_441 ?_
  refine r_bipush hx cb_101 dX12_init_443 ?_
  refine r_bipush hx cb_115 dX12_init_445 ?_
  refine r_iconst hx ci_0 dX12_init_447 ?_
  refine r_iconst hx ci_0 dX12_init_448 ?_
  obtain ⟨r20, μ19, c18, hf⟩ := f_bd2 hf
  refine r_callS hx (As := [.int 116, .int 105, .int 114, .int 101, .int 115, .int 0, .int 0]) (rest := [.int 2, .ref (kad k 54 0)]) (st1 := [.long r20, .int 2, .ref (kad k 54 0)]) MK_X12_letters ws_X12_letters wm_X12_156 ⟨Nat.le_refl _, Nat.le_refl _⟩ (cX12_letters hk c18) (Nat.le_of_ble_eq_true rfl) rfl rfl (Nat.le_of_ble_eq_true rfl) rfl dX12_init_449 (fun hb21 => ?_)
  refine r_last hx (by decide) rfl e17 (by decide) ti_2 dX12_init_452 ?_
  refine r_aloadn hx 0 rfl rfl dX12_init_453 ?_
  refine r_getR hx (c' := 54) (i' := 0) FK12_9 e_this rfl wf_X12_34 dX12_init_454 (fun e22 => ?_)
  refine r_iconst hx ci_3 dX12_init_457 ?_
  refine r_bipush hx cb_114 dX12_init_458 ?_
  refine r_bipush hx cb_101 dX12_init_460 ?_
  refine r_bipush hx cb_115 dX12_init_462 ?_
  refine r_bipush hx cb_116 dX12_init_464 ?_
  refine r_bipush hx cb_115 dX12_init_466 ?_
  refine r_iconst hx ci_0 dX12_init_468 ?_
  refine r_iconst hx ci_0 dX12_init_469 ?_
  obtain ⟨r25, μ24, c23, hf⟩ := f_bd2 hf
  refine r_callS hx (As := [.int 114, .int 101, .int 115, .int 116, .int 115, .int 0, .int 0]) (rest := [.int 3, .ref (kad k 54 0)]) (st1 := [.long r25, .int 3, .ref (kad k 54 0)]) MK_X12_letters ws_X12_letters wm_X12_156 ⟨Nat.le_refl _, Nat.le_refl _⟩ (cX12_letters hk c23) (Nat.le_of_ble_eq_true rfl) rfl rfl (Nat.le_of_ble_eq_true rfl) rfl dX12_init_470 (fun hb26 => ?_)
  refine r_last hx (by decide) rfl e22 (by decide) ti_3 dX12_init_473 ?_
  refine r_aloadn hx 0 rfl rfl dX12_init_474 ?_
  refine r_getR hx (c' := 54) (i' := 0) FK12_9 e_this rfl wf_X12_34 dX12_init_475 (fun e27 => ?_)
  refine r_iconst hx ci_4 dX12_init_478 ?_
  refine r_bipush hx cb_112 dX12_init_479 ?_
  refine r_bipush hx cb_97 dX12_init_481 ?_
  refine r_bipush hx cb_121 dX12_init_483 ?_
  refine r_bipush hx cb_115 dX12_init_485 ?_
  refine r_iconst hx ci_0 dX12_init_487 ?_
  refine r_iconst hx ci_0 dX12_init_488 ?_
  refine r_iconst hx ci_0 dX12_init_489 ?_
  obtain ⟨r30, μ29, c28, hf⟩ := f_bd2 hf
  refine r_callS hx (As := [.int 112, .int 97, .int 121, .int 115, .int 0, .int 0, .int 0]) (rest := [.int 4, .ref (kad k 54 0)]) (st1 := [.long r30, .int 4, .ref (kad k 54 0)]) MK_X12_letters ws_X12_letters wm_X12_156 ⟨Nat.le_refl _, Nat.le_refl _⟩ (cX12_letters hk c28) (Nat.le_of_ble_eq_true rfl) rfl rfl (Nat.le_of_ble_eq_true rfl) rfl dX12_init_490 (fun hb31 => ?_)
  refine r_last hx (by decide) rfl e27 (by decide) ti_4 dX12_init_493 ?_
  refine r_aloadn hx 0 rfl rfl dX12_init_494 ?_
  refine r_getR hx (c' := 54) (i' := 0) FK12_9 e_this rfl wf_X12_34 dX12_init_495 (fun e32 => ?_)
  refine r_iconst hx ci_5 dX12_init_498 ?_
  refine r_bipush hx cb_115 dX12_init_499 ?_
  refine r_bipush hx cb_108 dX12_init_501 ?_
  refine r_bipush hx cb_105 dX12_init_503 ?_
  refine r_bipush hx cb_112 dX12_init_505 ?_
  refine r_bipush hx cb_115 dX12_init_507 ?_
  refine r_iconst hx ci_0 dX12_init_509 ?_
  refine r_iconst hx ci_0 dX12_init_510 ?_
  obtain ⟨r35, μ34, c33, hf⟩ := f_bd2 hf
  refine r_callS hx (As := [.int 115, .int 108, .int 105, .int 112, .int 115, .int 0, .int 0]) (rest := [.int 5, .ref (kad k 54 0)]) (st1 := [.long r35, .int 5, .ref (kad k 54 0)]) MK_X12_letters ws_X12_letters wm_X12_156 ⟨Nat.le_refl _, Nat.le_refl _⟩ (cX12_letters hk c33) (Nat.le_of_ble_eq_true rfl) rfl rfl (Nat.le_of_ble_eq_true rfl) rfl dX12_init_511 (fun hb36 => ?_)
  refine r_last hx (by decide) rfl e32 (by decide) ti_5 dX12_init_514 ?_
  refine r_aloadn hx 0 rfl rfl dX12_init_515 ?_
  refine r_getR hx (c' := 54) (i' := 0) FK12_9 e_this rfl wf_X12_34 dX12_init_516 (fun e37 => ?_)
  refine r_bipush hx cb_6 dX12_init_519 ?_
  refine r_bipush hx cb_115 dX12_init_521 ?_
  refine r_bipush hx cb_101 dX12_init_523 ?_
  refine r_bipush hx cb_101 dX12_init_525 ?_
  refine r_bipush hx cb_100 dX12_init_527 ?_
  refine r_iconst hx ci_0 dX12_init_529 ?_
  refine r_iconst hx ci_0 dX12_init_530 ?_
  refine r_iconst hx ci_0 dX12_init_531 ?_
  obtain ⟨r40, μ39, c38, hf⟩ := f_bd2 hf
  refine r_callS hx (As := [.int 115, .int 101, .int 101, .int 100, .int 0, .int 0, .int 0]) (rest := [.int 6, .ref (kad k 54 0)]) (st1 := [.long r40, .int 6, .ref (kad k 54 0)]) MK_X12_letters ws_X12_letters wm_X12_156 ⟨Nat.le_refl _, Nat.le_refl _⟩ (cX12_letters hk c38) (Nat.le_of_ble_eq_true rfl) rfl rfl (Nat.le_of_ble_eq_true rfl) rfl dX12_init_532 (fun hb41 => ?_)
  refine r_last hx (by decide) rfl e37 (by decide) ti_6 dX12_init_535 ?_
  refine r_aloadn hx 0 rfl rfl dX12_init_536 ?_
  refine r_getR hx (c' := 54) (i' := 0) FK12_9 e_this rfl wf_X12_34 dX12_init_537 (fun e42 => ?_)
  refine r_bipush hx cb_7 dX12_init_540 ?_
  refine r_bipush hx cb_116 dX12_init_542 ?_
  refine r_bipush hx cb_119 dX12_init_544 ?_
  refine r_bipush hx cb_105 dX12_init_546 ?_
  refine r_bipush hx cb_115 dX12_init_548 ?_
  refine r_bipush hx cb_116 dX12_init_550 ?_
  refine r_iconst hx ci_0 dX12_init_552 ?_
  refine r_iconst hx ci_0 dX12_init_553 ?_
  obtain ⟨r45, μ44, c43, hf⟩ := f_bd2 hf
  refine r_callS hx (As := [.int 116, .int 119, .int 105, .int 115, .int 116, .int 0, .int 0]) (rest := [.int 7, .ref (kad k 54 0)]) (st1 := [.long r45, .int 7, .ref (kad k 54 0)]) MK_X12_letters ws_X12_letters wm_X12_156 ⟨Nat.le_refl _, Nat.le_refl _⟩ (cX12_letters hk c43) (Nat.le_of_ble_eq_true rfl) rfl rfl (Nat.le_of_ble_eq_true rfl) rfl dX12_init_554 (fun hb46 => ?_)
  refine r_last hx (by decide) rfl e42 (by decide) ti_7 dX12_init_557 ?_
  refine r_aloadn hx 0 rfl rfl dX12_init_558 ?_
  refine r_getR hx (c' := 54) (i' := 0) FK12_9 e_this rfl wf_X12_34 dX12_init_559 (fun e47 => ?_)
  refine r_bipush hx cb_8 dX12_init_562 ?_
  refine r_bipush hx cb_98 dX12_init_564 ?_
  refine r_bipush hx cb_97 dX12_init_566 ?_
  refine r_bipush hx cb_99 dX12_init_568 ?_
  refine r_bipush hx cb_107 dX12_init_570 ?_
  refine r_iconst hx ci_0 dX12_init_572 ?_
  refine r_iconst hx ci_0 dX12_init_573 ?_
  refine r_iconst hx ci_0 dX12_init_574 ?_
  obtain ⟨r50, μ49, c48, hf⟩ := f_bd2 hf
  refine r_callS hx (As := [.int 98, .int 97, .int 99, .int 107, .int 0, .int 0, .int 0]) (rest := [.int 8, .ref (kad k 54 0)]) (st1 := [.long r50, .int 8, .ref (kad k 54 0)]) MK_X12_letters ws_X12_letters wm_X12_156 ⟨Nat.le_refl _, Nat.le_refl _⟩ (cX12_letters hk c48) (Nat.le_of_ble_eq_true rfl) rfl rfl (Nat.le_of_ble_eq_true rfl) rfl dX12_init_575 (fun hb51 => ?_)
  refine r_last hx (by decide) rfl e47 (by decide) ti_8 dX12_init_578 ?_
  refine r_aloadn hx 0 rfl rfl dX12_init_579 ?_
  refine r_getR hx (c' := 54) (i' := 0) FK12_9 e_this rfl wf_X12_34 dX12_init_580 (fun e52 => ?_)
  refine r_bipush hx cb_9 dX12_init_583 ?_
  refine r_bipush hx cb_116 dX12_init_585 ?_
  refine r_bipush hx cb_117 dX12_init_587 ?_
  refine r_bipush hx cb_114 dX12_init_589 ?_
  refine r_bipush hx cb_110 dX12_init_591 ?_
  refine r_iconst hx ci_0 dX12_init_593 ?_
  refine r_iconst hx ci_0 dX12_init_594 ?_
  refine r_iconst hx ci_0 dX12_init_595 ?_
  obtain ⟨r55, μ54, c53, hf⟩ := f_bd2 hf
  refine r_callS hx (As := [.int 116, .int 117, .int 114, .int 110, .int 0, .int 0, .int 0]) (rest := [.int 9, .ref (kad k 54 0)]) (st1 := [.long r55, .int 9, .ref (kad k 54 0)]) MK_X12_letters ws_X12_letters wm_X12_156 ⟨Nat.le_refl _, Nat.le_refl _⟩ (cX12_letters hk c53) (Nat.le_of_ble_eq_true rfl) rfl rfl (Nat.le_of_ble_eq_true rfl) rfl dX12_init_596 (fun hb56 => ?_)
  refine r_last hx (by decide) rfl e52 (by decide) ti_9 dX12_init_599 ?_
  refine r_aloadn hx 0 rfl rfl dX12_init_600 ?_
  refine r_getR hx (c' := 54) (i' := 0) FK12_9 e_this rfl wf_X12_34 dX12_init_601 (fun e57 => ?_)
  refine r_bipush hx cb_10 dX12_init_604 ?_
  refine r_bipush hx cb_105 dX12_init_606 ?_
  refine r_bipush hx cb_102 dX12_init_608 ?_
  refine r_iconst hx ci_0 dX12_init_610 ?_
  refine r_iconst hx ci_0 dX12_init_611 ?_
  refine r_iconst hx ci_0 dX12_init_612 ?_
  refine r_iconst hx ci_0 dX12_init_613 ?_
  refine r_iconst hx ci_0 dX12_init_614 ?_
  obtain ⟨r60, μ59, c58, hf⟩ := f_bd2 hf
  refine r_callS hx (As := [.int 105, .int 102, .int 0, .int 0, .int 0, .int 0, .int 0]) (rest := [.int 10, .ref (kad k 54 0)]) (st1 := [.long r60, .int 10, .ref (kad k 54 0)]) MK_X12_letters ws_X12_letters wm_X12_156 ⟨Nat.le_refl _, Nat.le_refl _⟩ (cX12_letters hk c58) (Nat.le_of_ble_eq_true rfl) rfl rfl (Nat.le_of_ble_eq_true rfl) rfl dX12_init_615 (fun hb61 => ?_)
  refine r_last hx (by decide) rfl e57 (by decide) ti_10 dX12_init_618 ?_
  refine r_aloadn hx 0 rfl rfl dX12_init_619 ?_
  refine r_getR hx (c' := 54) (i' := 0) FK12_9 e_this rfl wf_X12_34 dX12_init_620 (fun e62 => ?_)
  refine r_bipush hx cb_11 dX12_init_623 ?_
  refine r_bipush hx cb_116 dX12_init_625 ?_
  refine r_bipush hx cb_104 dX12_init_627 ?_
  refine r_bipush hx cb_101 dX12_init_629 ?_
  refine r_bipush hx cb_110 dX12_init_631 ?_
  refine r_iconst hx ci_0 dX12_init_633 ?_
  refine r_iconst hx ci_0 dX12_init_634 ?_
  refine r_iconst hx ci_0 dX12_init_635 ?_
  obtain ⟨r65, μ64, c63, hf⟩ := f_bd2 hf
  refine r_callS hx (As := [.int 116, .int 104, .int 101, .int 110, .int 0, .int 0, .int 0]) (rest := [.int 11, .ref (kad k 54 0)]) (st1 := [.long r65, .int 11, .ref (kad k 54 0)]) MK_X12_letters ws_X12_letters wm_X12_156 ⟨Nat.le_refl _, Nat.le_refl _⟩ (cX12_letters hk c63) (Nat.le_of_ble_eq_true rfl) rfl rfl (Nat.le_of_ble_eq_true rfl) rfl dX12_init_636 (fun hb66 => ?_)
  refine r_last hx (by decide) rfl e62 (by decide) ti_11 dX12_init_639 ?_
  refine r_aloadn hx 0 rfl rfl dX12_init_640 ?_
  refine r_getR hx (c' := 54) (i' := 0) FK12_9 e_this rfl wf_X12_34 dX12_init_641 (fun e67 => ?_)
  refine r_bipush hx cb_12 dX12_init_644 ?_
  refine r_bipush hx cb_101 dX12_init_646 ?_
  refine r_bipush hx cb_108 dX12_init_648 ?_
  refine r_bipush hx cb_115 dX12_init_650 ?_
  refine r_bipush hx cb_101 dX12_init_652 ?_
  refine r_iconst hx ci_0 dX12_init_654 ?_
  refine r_iconst hx ci_0 dX12_init_655 ?_
  refine r_iconst hx ci_0 dX12_init_656 ?_
  obtain ⟨r70, μ69, c68, hf⟩ := f_bd2 hf
  refine r_callS hx (As := [.int 101, .int 108, .int 115, .int 101, .int 0, .int 0, .int 0]) (rest := [.int 12, .ref (kad k 54 0)]) (st1 := [.long r70, .int 12, .ref (kad k 54 0)]) MK_X12_letters ws_X12_letters wm_X12_156 ⟨Nat.le_refl _, Nat.le_refl _⟩ (cX12_letters hk c68) (Nat.le_of_ble_eq_true rfl) rfl rfl (Nat.le_of_ble_eq_true rfl) rfl dX12_init_657 (fun hb71 => ?_)
  refine r_last hx (by decide) rfl e67 (by decide) ti_12 dX12_init_660 ?_
  refine r_aloadn hx 0 rfl rfl dX12_init_661 ?_
  refine r_getR hx (c' := 54) (i' := 0) FK12_9 e_this rfl wf_X12_34 dX12_init_662 (fun e72 => ?_)
  refine r_bipush hx cb_13 dX12_init_665 ?_
  refine r_bipush hx cb_111 dX12_init_667 ?_
  refine r_bipush hx cb_118 dX12_init_669 ?_
  refine r_bipush hx cb_101 dX12_init_671 ?_
  refine r_bipush hx cb_114 dX12_init_673 ?_
  refine r_iconst hx ci_0 dX12_init_675 ?_
  refine r_iconst hx ci_0 dX12_init_676 ?_
  refine r_iconst hx ci_0 dX12_init_677 ?_
  obtain ⟨r75, μ74, c73, hf⟩ := f_bd2 hf
  refine r_callS hx (As := [.int 111, .int 118, .int 101, .int 114, .int 0, .int 0, .int 0]) (rest := [.int 13, .ref (kad k 54 0)]) (st1 := [.long r75, .int 13, .ref (kad k 54 0)]) MK_X12_letters ws_X12_letters wm_X12_156 ⟨Nat.le_refl _, Nat.le_refl _⟩ (cX12_letters hk c73) (Nat.le_of_ble_eq_true rfl) rfl rfl (Nat.le_of_ble_eq_true rfl) rfl dX12_init_678 (fun hb76 => ?_)
  refine r_last hx (by decide) rfl e72 (by decide) ti_13 dX12_init_681 ?_
  refine r_aloadn hx 0 rfl rfl dX12_init_682 ?_
  refine r_getR hx (c' := 54) (i' := 0) FK12_9 e_this rfl wf_X12_34 dX12_init_683 (fun e77 => ?_)
  refine r_bipush hx cb_14 dX12_init_686 ?_
  refine r_bipush hx cb_117 dX12_init_688 ?_
  refine r_bipush hx cb_110 dX12_init_690 ?_
  refine r_bipush hx cb_100 dX12_init_692 ?_
  refine r_bipush hx cb_101 dX12_init_694 ?_
  refine r_bipush hx cb_114 dX12_init_696 ?_
  refine r_iconst hx ci_0 dX12_init_698 ?_
  refine r_iconst hx ci_0 dX12_init_699 ?_
  obtain ⟨r80, μ79, c78, hf⟩ := f_bd2 hf
  refine r_callS hx (As := [.int 117, .int 110, .int 100, .int 101, .int 114, .int 0, .int 0]) (rest := [.int 14, .ref (kad k 54 0)]) (st1 := [.long r80, .int 14, .ref (kad k 54 0)]) MK_X12_letters ws_X12_letters wm_X12_156 ⟨Nat.le_refl _, Nat.le_refl _⟩ (cX12_letters hk c78) (Nat.le_of_ble_eq_true rfl) rfl rfl (Nat.le_of_ble_eq_true rfl) rfl dX12_init_700 (fun hb81 => ?_)
  refine r_last hx (by decide) rfl e77 (by decide) ti_14 dX12_init_703 ?_
  refine r_aloadn hx 0 rfl rfl dX12_init_704 ?_
  refine r_getR hx (c' := 54) (i' := 0) FK12_9 e_this rfl wf_X12_34 dX12_init_705 (fun e82 => ?_)
  refine r_bipush hx cb_15 dX12_init_708 ?_
  refine r_bipush hx cb_99 dX12_init_710 ?_
  refine r_bipush hx cb_114 dX12_init_712 ?_
  refine r_bipush hx cb_111 dX12_init_714 ?_
  refine r_bipush hx cb_115 dX12_init_716 ?_
  refine r_bipush hx cb_115 dX12_init_718 ?_
  refine r_iconst hx ci_0 dX12_init_720 ?_
  refine r_iconst hx ci_0 dX12_init_721 ?_
  obtain ⟨r85, μ84, c83, hf⟩ := f_bd2 hf
  refine r_callS hx (As := [.int 99, .int 114, .int 111, .int 115, .int 115, .int 0, .int 0]) (rest := [.int 15, .ref (kad k 54 0)]) (st1 := [.long r85, .int 15, .ref (kad k 54 0)]) MK_X12_letters ws_X12_letters wm_X12_156 ⟨Nat.le_refl _, Nat.le_refl _⟩ (cX12_letters hk c83) (Nat.le_of_ble_eq_true rfl) rfl rfl (Nat.le_of_ble_eq_true rfl) rfl dX12_init_722 (fun hb86 => ?_)
  refine r_last hx (by decide) rfl e82 (by decide) ti_15 dX12_init_725 ?_
  refine r_aloadn hx 0 rfl rfl dX12_init_726 ?_
  refine r_getR hx (c' := 54) (i' := 0) FK12_9 e_this rfl wf_X12_34 dX12_init_727 (fun e87 => ?_)
  refine r_bipush hx cb_16 dX12_init_730 ?_
  refine r_bipush hx cb_101 dX12_init_732 ?_
  refine r_bipush hx cb_110 dX12_init_734 ?_
  refine r_bipush hx cb_100 dX12_init_736 ?_
  refine r_bipush hx cb_115 dX12_init_738 ?_
  refine r_iconst hx ci_0 dX12_init_740 ?_
  refine r_iconst hx ci_0 dX12_init_741 ?_
  refine r_iconst hx ci_0 dX12_init_742 ?_
  obtain ⟨r90, μ89, c88, hf⟩ := f_bd2 hf
  refine r_callS hx (As := [.int 101, .int 110, .int 100, .int 115, .int 0, .int 0, .int 0]) (rest := [.int 16, .ref (kad k 54 0)]) (st1 := [.long r90, .int 16, .ref (kad k 54 0)]) MK_X12_letters ws_X12_letters wm_X12_156 ⟨Nat.le_refl _, Nat.le_refl _⟩ (cX12_letters hk c88) (Nat.le_of_ble_eq_true rfl) rfl rfl (Nat.le_of_ble_eq_true rfl) rfl dX12_init_743 (fun hb91 => ?_)
  refine r_last hx (by decide) rfl e87 (by decide) ti_16 dX12_init_746 ?_
  refine r_aloadn hx 0 rfl rfl dX12_init_747 ?_
  refine r_getR hx (c' := 54) (i' := 0) FK12_9 e_this rfl wf_X12_34 dX12_init_748 (fun e92 => ?_)
  refine r_bipush hx cb_17 dX12_init_751 ?_
  refine r_bipush hx cb_116 dX12_init_753 ?_
  refine r_bipush hx cb_105 dX12_init_755 ?_
  refine r_bipush hx cb_114 dX12_init_757 ?_
  refine r_bipush hx cb_101 dX12_init_759 ?_
  refine r_bipush hx cb_100 dX12_init_761 ?_
  refine r_iconst hx ci_0 dX12_init_763 ?_
  refine r_iconst hx ci_0 dX12_init_764 ?_
  obtain ⟨r95, μ94, c93, hf⟩ := f_bd2 hf
  refine r_callS hx (As := [.int 116, .int 105, .int 114, .int 101, .int 100, .int 0, .int 0]) (rest := [.int 17, .ref (kad k 54 0)]) (st1 := [.long r95, .int 17, .ref (kad k 54 0)]) MK_X12_letters ws_X12_letters wm_X12_156 ⟨Nat.le_refl _, Nat.le_refl _⟩ (cX12_letters hk c93) (Nat.le_of_ble_eq_true rfl) rfl rfl (Nat.le_of_ble_eq_true rfl) rfl dX12_init_765 (fun hb96 => ?_)
  refine r_last hx (by decide) rfl e92 (by decide) ti_17 dX12_init_768 ?_
  refine r_aloadn hx 0 rfl rfl dX12_init_769 ?_
  refine r_getR hx (c' := 54) (i' := 0) FK12_9 e_this rfl wf_X12_34 dX12_init_770 (fun e97 => ?_)
  refine r_bipush hx cb_18 dX12_init_773 ?_
  refine r_bipush hx cb_109 dX12_init_775 ?_
  refine r_bipush hx cb_105 dX12_init_777 ?_
  refine r_bipush hx cb_110 dX12_init_779 ?_
  refine r_bipush hx cb_117 dX12_init_781 ?_
  refine r_bipush hx cb_116 dX12_init_783 ?_
  refine r_bipush hx cb_101 dX12_init_785 ?_
  refine r_iconst hx ci_0 dX12_init_787 ?_
  obtain ⟨r100, μ99, c98, hf⟩ := f_bd2 hf
  refine r_callS hx (As := [.int 109, .int 105, .int 110, .int 117, .int 116, .int 101, .int 0]) (rest := [.int 18, .ref (kad k 54 0)]) (st1 := [.long r100, .int 18, .ref (kad k 54 0)]) MK_X12_letters ws_X12_letters wm_X12_156 ⟨Nat.le_refl _, Nat.le_refl _⟩ (cX12_letters hk c98) (Nat.le_of_ble_eq_true rfl) rfl rfl (Nat.le_of_ble_eq_true rfl) rfl dX12_init_788 (fun hb101 => ?_)
  refine r_last hx (by decide) rfl e97 (by decide) ti_18 dX12_init_791 ?_
  refine r_aloadn hx 0 rfl rfl dX12_init_792 ?_
  refine r_getR hx (c' := 54) (i' := 0) FK12_9 e_this rfl wf_X12_34 dX12_init_793 (fun e102 => ?_)
  refine r_bipush hx cb_19 dX12_init_796 ?_
  refine r_bipush hx cb_119 dX12_init_798 ?_
  refine r_bipush hx cb_104 dX12_init_800 ?_
  refine r_bipush hx cb_105 dX12_init_802 ?_
  refine r_bipush hx cb_99 dX12_init_804 ?_
  refine r_bipush hx cb_104 dX12_init_806 ?_
  refine r_iconst hx ci_0 dX12_init_808 ?_
  refine r_iconst hx ci_0 dX12_init_809 ?_
  obtain ⟨r105, μ104, c103, hf⟩ := f_bd2 hf
  refine r_callS hx (As := [.int 119, .int 104, .int 105, .int 99, .int 104, .int 0, .int 0]) (rest := [.int 19, .ref (kad k 54 0)]) (st1 := [.long r105, .int 19, .ref (kad k 54 0)]) MK_X12_letters ws_X12_letters wm_X12_156 ⟨Nat.le_refl _, Nat.le_refl _⟩ (cX12_letters hk c103) (Nat.le_of_ble_eq_true rfl) rfl rfl (Nat.le_of_ble_eq_true rfl) rfl dX12_init_810 (fun hb106 => ?_)
  refine r_last hx (by decide) rfl e102 (by decide) ti_19 dX12_init_813 ?_
  refine r_aloadn hx 0 rfl rfl dX12_init_814 ?_
  refine r_getR hx (c' := 54) (i' := 0) FK12_9 e_this rfl wf_X12_34 dX12_init_815 (fun e107 => ?_)
  refine r_bipush hx cb_20 dX12_init_818 ?_
  refine r_bipush hx cb_109 dX12_init_820 ?_
  refine r_bipush hx cb_111 dX12_init_822 ?_
  refine r_bipush hx cb_118 dX12_init_824 ?_
  refine r_bipush hx cb_101 dX12_init_826 ?_
  refine r_bipush hx cb_115 dX12_init_828 ?_
  refine r_iconst hx ci_0 dX12_init_830 ?_
  refine r_iconst hx ci_0 dX12_init_831 ?_
  obtain ⟨r110, μ109, c108, hf⟩ := f_bd2 hf
  refine r_callS hx (As := [.int 109, .int 111, .int 118, .int 101, .int 115, .int 0, .int 0]) (rest := [.int 20, .ref (kad k 54 0)]) (st1 := [.long r110, .int 20, .ref (kad k 54 0)]) MK_X12_letters ws_X12_letters wm_X12_156 ⟨Nat.le_refl _, Nat.le_refl _⟩ (cX12_letters hk c108) (Nat.le_of_ble_eq_true rfl) rfl rfl (Nat.le_of_ble_eq_true rfl) rfl dX12_init_832 (fun hb111 => ?_)
  refine r_last hx (by decide) rfl e107 (by decide) ti_20 dX12_init_835 ?_
  refine r_aloadn hx 0 rfl rfl dX12_init_836 ?_
  refine r_getR hx (c' := 54) (i' := 0) FK12_9 e_this rfl wf_X12_34 dX12_init_837 (fun e112 => ?_)
  refine r_bipush hx cb_21 dX12_init_840 ?_
  refine r_bipush hx cb_99 dX12_init_842 ?_
  refine r_bipush hx cb_97 dX12_init_844 ?_
  refine r_bipush hx cb_108 dX12_init_846 ?_
  refine r_bipush hx cb_108 dX12_init_848 ?_
  refine r_bipush hx cb_101 dX12_init_850 ?_
  refine r_bipush hx cb_100 dX12_init_852 ?_
  refine r_iconst hx ci_0 dX12_init_854 ?_
  obtain ⟨r115, μ114, c113, hf⟩ := f_bd2 hf
  refine r_callS hx (As := [.int 99, .int 97, .int 108, .int 108, .int 101, .int 100, .int 0]) (rest := [.int 21, .ref (kad k 54 0)]) (st1 := [.long r115, .int 21, .ref (kad k 54 0)]) MK_X12_letters ws_X12_letters wm_X12_156 ⟨Nat.le_refl _, Nat.le_refl _⟩ (cX12_letters hk c113) (Nat.le_of_ble_eq_true rfl) rfl rfl (Nat.le_of_ble_eq_true rfl) rfl dX12_init_855 (fun hb116 => ?_)
  refine r_last hx (by decide) rfl e112 (by decide) ti_21 dX12_init_858 ?_
  refine r_aloadn hx 0 rfl rfl dX12_init_859 ?_
  obtain ⟨μ118, c117, hf⟩ := f_bd1 hf
  refine r_callV hx (As := []) (rest := []) (st1 := []) (c := 12) (i := 0) (TT := T12) (N := 75) MK_X12_fillsUndoing rfl wi_X12_fillsUndoing we_X12_fillsUndoing wm_X12_160 ⟨Nat.le_refl _, Nat.le_refl _⟩ (cX12_fillsUndoing hk e_this c117) e_this (Nat.le_of_ble_eq_true rfl) rfl rfl (Nat.le_of_ble_eq_true rfl) rfl dX12_init_860 (fun hb119 => ?_)
  refine r_aloadn hx 0 rfl rfl dX12_init_863 ?_
  obtain ⟨μ121, c120, hf⟩ := f_bd1 hf
  refine r_callV hx (As := []) (rest := []) (st1 := []) (c := 12) (i := 0) (TT := T12) (N := 75) MK_X12_begins rfl wi_X12_begins we_X12_begins wm_X12_163 ⟨Nat.le_refl _, Nat.le_refl _⟩ (cX12_begins hk e_this c120) e_this (Nat.le_of_ble_eq_true rfl) rfl rfl (Nat.le_of_ble_eq_true rfl) rfl dX12_init_864 (fun hb122 => ?_)
  refine r_aloadn hx 0 rfl rfl dX12_init_867 ?_
  obtain ⟨μ124, c123, hf⟩ := f_bd1 hf
  refine r_callV hx (As := []) (rest := []) (st1 := []) (c := 12) (i := 0) (TT := T12) (N := 75) MK_X12_keepsRow rfl wi_X12_keepsRow we_X12_keepsRow wm_X12_166 ⟨Nat.le_refl _, Nat.le_refl _⟩ (cX12_keepsRow hk e_this c123) e_this (Nat.le_of_ble_eq_true rfl) rfl rfl (Nat.le_of_ble_eq_true rfl) rfl dX12_init_868 (fun hb125 => ?_)
  exact r_vret hx hf dX12_init_871
set_option maxRecDepth 20000 in
set_option maxHeartbeats 4000000 in
theorem mX5_init {l : Launch} {k : Kx} {i : Nat} {L : List (Nat × Nat)} {μ : Mm} : MC l k 1 yX5_init bX5_init 1 [.ref (kad k 5 i)] L (nX5 i) (0, 0) μ [(kad k 5 i, .inr (5, [.int 0, .int 0, .int 0, .int 0]))] (lX5 i L) (iX5 i μ) := by
  refine MC.of (lv := [(0, .ref (kad k 5 i))]) (plainFor_of_name (by decide)) rfl (Nat.le_of_ble_eq_true rfl) rfl (fun z hl hx hA => ?_)
  subst hl
  have hx : Oc true z k bX5_init 1 "RopeDance$Square" 1 (0, 0) := hx
  refine c_aloadn hx 0 rfl rfl dX5_init_0 ?_
  refine c_objInit hx woi_X5 woin woic (Nat.le_of_ble_eq_true rfl) (Nat.le_of_ble_eq_true rfl) dX5_init_1 ?_
  refine c_aloadn hx 0 rfl rfl dX5_init_4 ?_
  refine c_iconst hx ci_1 dX5_init_5 ?_
  refine c_put hx (ty := .int) 0 (xs' := [(kad k 5 i, .inr (5, [.int 0, .int 1, .int 0, .int 0]))]) FK5_1 wf_X5_7 (by decide +kernel) rfl rfl rfl rfl rfl dX5_init_6 ?_
  refine c_absZ (c := 5) (i := i) (us := [(1, 1)]) (fs := [.int 0, .int 1, .int 0, .int 0]) (xs0 := []) (by decide) rfl rfl (fun j h => absurd h (getD_ne (by decide) j)) ?_
  exact c_vret hx dX5_init_9
set_option maxRecDepth 20000 in
set_option maxHeartbeats 4000000 in
theorem mX6_init {l : Launch} {k : Kx} {i : Nat} {L : List (Nat × Nat)} {μ : Mm} : MC l k 1 yX6_init bX6_init 1 [.ref (kad k 6 i)] L (nX6 i) (0, 0) μ [(kad k 6 i, .inr (6, [.int 0, .int 0, .int 0, .int 0]))] (lX6 i L) (iX6 i μ) := by
  refine MC.of (lv := [(0, .ref (kad k 6 i))]) (plainFor_of_name (by decide)) rfl (Nat.le_of_ble_eq_true rfl) rfl (fun z hl hx hA => ?_)
  subst hl
  have hx : Oc true z k bX6_init 1 "RopeDance$Table" 1 (0, 0) := hx
  refine c_aloadn hx 0 rfl rfl dX6_init_0 ?_
  refine c_objInit hx woi_X6 woin woic (Nat.le_of_ble_eq_true rfl) (Nat.le_of_ble_eq_true rfl) dX6_init_1 ?_
  refine c_aloadn hx 0 rfl rfl dX6_init_4 ?_
  refine c_iconst hx ci_1 dX6_init_5 ?_
  refine c_put hx (ty := .int) 0 (xs' := [(kad k 6 i, .inr (6, [.int 1, .int 0, .int 0, .int 0]))]) FK6_0 wf_X6_7 (by decide +kernel) rfl rfl rfl rfl rfl dX6_init_6 ?_
  refine c_aloadn hx 0 rfl rfl dX6_init_9 ?_
  refine c_iconst hx ci_1 dX6_init_10 ?_
  refine c_put hx (ty := .int) 0 (xs' := [(kad k 6 i, .inr (6, [.int 1, .int 0, .int 0, .int 1]))]) FK6_3 wf_X6_13 (by decide +kernel) rfl rfl rfl rfl rfl dX6_init_11 ?_
  refine c_absZ (c := 6) (i := i) (us := [(0, 1), (3, 1)]) (fs := [.int 1, .int 0, .int 0, .int 1]) (xs0 := []) (by decide) rfl rfl (fun j h => absurd h (getD_ne (by decide) j)) ?_
  exact c_vret hx dX6_init_14
set_option maxRecDepth 20000 in
set_option maxHeartbeats 4000000 in
theorem mX3_init {l : Launch} {k : Kx} {i : Nat} {L : List (Nat × Nat)} {μ : Mm} : MC l k 2 yX3_init bX3_init 1 [.ref (kad k 3 i)] L (nX3 i) (3, 20) μ [(kad k 3 i, .inr (3, [.int 0, .null, .null, .null]))] (lX3 i L) (iX3 i μ) := by
  refine MC.of (lv := [(0, .ref (kad k 3 i))]) (plainFor_of_name (by decide)) rfl (Nat.le_of_ble_eq_true rfl) rfl (fun z hl hx hA => ?_)
  subst hl
  have hx : Oc true z k bX3_init 1 "RopeDance$Row" 2 (3, 20) := hx
  refine c_aloadn hx 0 rfl rfl dX3_init_0 ?_
  refine c_objInit hx woi_X3 woin woic (Nat.le_of_ble_eq_true rfl) (Nat.le_of_ble_eq_true rfl) dX3_init_1 ?_
  refine c_aloadn hx 0 rfl rfl dX3_init_4 ?_
  refine c_new hx (c := 6) (i := i) (TT := T6) (ty := t6) (fs := [.int 0, .int 0, .int 0, .int 0]) rfl (xgu iw6) tok6 wcl_X3_7 win_X6 wn_X6 (hA 0 _ rfl) dv6 ⟨Nat.le_of_ble_eq_true rfl, Nat.le_of_ble_eq_true rfl⟩ dX3_init_5 ?_
  refine c_C (C' := (1, 4)) rfl ?_
  refine c_dup hx rfl dX3_init_8 ?_
  refine c_callI hx (As := []) (rest := [.ref (kad k 6 i), .ref (kad k 3 i)]) (xs0 := [(kad k 3 i, .inr (3, [.int 0, .null, .null, .null]))]) (N := nX6 i) (L' := (lX6 i L)) MK_X6_init wi_X6_init wm_X3_9 rfl ⟨Nat.le_of_ble_eq_true rfl, Nat.le_of_ble_eq_true rfl⟩ (mX6_init (k := kR k [(kad k 3 i, .inr (3, [.int 0, .null, .null, .null]))]) (i := i)) rfl (AL_sub hA 1 0 rfl) (hX6) (Nat.le_of_ble_eq_true rfl) rfl rfl (Nat.le_of_ble_eq_true rfl) dX3_init_9 ?_
  refine c_C (C' := (1, 4)) rfl ?_
  refine c_put hx (ty := (.object "RopeDance$Table")) 0 (xs' := [(kad k 3 i, .inr (3, [.int 0, .ref (kad k 6 i), .null, .null]))]) FK3_1 wf_X3_10 (by decide +kernel) rfl rfl rfl rfl rfl dX3_init_12 ?_
  refine c_aloadn hx 0 rfl rfl dX3_init_15 ?_
  refine c_bipush hx cb_8 dX3_init_16 ?_
  refine c_newarr hx (t := 25) (i := i) (N := 8) (atype := .int) wac_int (by decide) (by decide) rfl (by decide +kernel) rfl (by decide) (by decide) (hA 1 _ rfl) ⟨Nat.le_of_ble_eq_true rfl, Nat.le_of_ble_eq_true rfl⟩ dX3_init_18 ?_
  refine c_C (C' := (2, 12)) rfl ?_
  refine c_put hx (ty := (.array .int)) 0 (xs' := [(kad k 3 i, .inr (3, [.int 0, .ref (kad k 6 i), .ref (kad k 25 i), .null]))]) FK3_2 wf_X3_16 (by decide +kernel) rfl rfl rfl rfl rfl dX3_init_20 ?_
  refine c_aloadn hx 0 rfl rfl dX3_init_23 ?_
  refine c_bipush hx cb_8 dX3_init_24 ?_
  refine c_newarr hx (t := 26) (i := i) (N := 8) (atype := .int) wac_int (by decide) (by decide) rfl (by decide +kernel) rfl (by decide) (by decide) (hA 2 _ rfl) ⟨Nat.le_of_ble_eq_true rfl, Nat.le_of_ble_eq_true rfl⟩ dX3_init_26 ?_
  refine c_C (C' := (3, 20)) rfl ?_
  refine c_put hx (ty := (.array .int)) 0 (xs' := [(kad k 3 i, .inr (3, [.int 0, .ref (kad k 6 i), .ref (kad k 25 i), .ref (kad k 26 i)]))]) FK3_3 wf_X3_20 (by decide +kernel) rfl rfl rfl rfl rfl dX3_init_28 ?_
  refine c_absZ (c := 3) (i := i) (us := []) (fs := [.int 0, .ref (kad k 6 i), .ref (kad k 25 i), .ref (kad k 26 i)]) (xs0 := []) (by decide) rfl rfl (fun j h => absurd h (getD_ne (by decide) j)) ?_
  exact c_vret hx dX3_init_31
set_option maxRecDepth 20000 in
set_option maxHeartbeats 4000000 in
theorem mX0_init {l : Launch} {k : Kx} {L : List (Nat × Nat)} {μ : Mm} : MC l k 2 yX0_init bX0_init 2 [.ref (kad k 0 0)] L (nX0) (5, 20) μ [(kad k 0 0, .inr (0, [.null, .int 0, .int 0]))] (lX0 L) (iX0 μ) := by
  refine MC.of (lv := [(0, .ref (kad k 0 0))]) (plainFor_of_name (by decide)) rfl (Nat.le_of_ble_eq_true rfl) rfl (fun z hl hx hA => ?_)
  subst hl
  have hx : Oc true z k bX0_init 2 "RopeDance$Evening" 2 (5, 20) := hx
  refine c_aloadn hx 0 rfl rfl dX0_init_0 ?_
  refine c_objInit hx woi_X0 woin woic (Nat.le_of_ble_eq_true rfl) (Nat.le_of_ble_eq_true rfl) dX0_init_1 ?_
  refine c_aloadn hx 0 rfl rfl dX0_init_4 ?_
  refine c_iconst hx ci_4 dX0_init_5 ?_
  refine c_anew hx (t := 20) (i := 0) (N := 4) wcl_X0_9 hx.2.2.2.2.2.2.2.2.2.2.2.2.2.1 (by decide) rfl (by decide +kernel) rfl (by decide) (by decide) (hA 0 _ rfl) ⟨Nat.le_of_ble_eq_true rfl, Nat.le_of_ble_eq_true rfl⟩ dX0_init_6 ?_
  refine c_C (C' := (1, 4)) rfl ?_
  refine c_put hx (ty := (.array (.object "RopeDance$Square"))) 0 (xs' := [(kad k 0 0, .inr (0, [.ref (kad k 20 0), .int 0, .int 0])), (kad k 20 0, .inl (kA k (ak 20), (4, ra k 20 0 0)))]) FK0_0 wf_X0_11 (by decide +kernel) rfl rfl rfl rfl rfl dX0_init_9 ?_
  refine c_iconst hx ci_0 dX0_init_12 ?_
  refine c_istoren hx (lv' := [(1, .int 0), (0, .ref (kad k 0 0))]) rfl (Nat.le_of_ble_eq_true rfl) rfl dX0_init_13 ?_
  refine c_iloadn hx 0 rfl rfl dX0_init_14 ?_
  refine c_iconst hx ci_4 dX0_init_15 ?_
  refine c_icge hx (tgt := 38) rfl dX0_init_16 (fun q => absurd q (by decide)) (fun _ => ?_)
  refine c_aloadn hx 1 rfl rfl dX0_init_19 ?_
  refine c_get hx 0 FK0_0 wf_X0_11 rfl rfl dX0_init_20 ?_
  refine c_iloadn hx 0 rfl rfl dX0_init_23 ?_
  refine c_new hx (c := 5) (i := 0) (TT := T5) (ty := t5) (fs := [.int 0, .int 0, .int 0, .int 0]) rfl (xgu iw5) tok5 wcl_X0_9 win_X5 wn_X5 (hA 1 _ rfl) dv5 ⟨Nat.le_of_ble_eq_true rfl, Nat.le_of_ble_eq_true rfl⟩ dX0_init_24 ?_
  refine c_C (C' := (2, 8)) rfl ?_
  refine c_dup hx rfl dX0_init_27 ?_
  refine c_callI hx (As := []) (rest := [.ref (kad k 5 0), .int 0, .ref (kad k 20 0)]) (xs0 := [(kad k 0 0, .inr (0, [.ref (kad k 20 0), .int 0, .int 0])), (kad k 20 0, .inl (kA k (ak 20), (4, ra k 20 0 0)))]) (N := nX5 0) (L' := (lX5 0 L)) MK_X5_init wi_X5_init wm_X0_17 rfl ⟨Nat.le_of_ble_eq_true rfl, Nat.le_of_ble_eq_true rfl⟩ (mX5_init (k := kR k [(kad k 0 0, .inr (0, [.ref (kad k 20 0), .int 0, .int 0])), (kad k 20 0, .inl (kA k (ak 20), (4, ra k 20 0 0)))]) (i := 0)) rfl (AL_sub hA 2 0 rfl) (hX5) (Nat.le_of_ble_eq_true rfl) rfl rfl (Nat.le_of_ble_eq_true rfl) dX0_init_28 ?_
  refine c_C (C' := (2, 8)) rfl ?_
  refine c_aast hx (t := 20) (i := 0) (m := 0) (N := 4) (TT := T5) (N2 := 4) (xs' := [(kad k 0 0, .inr (0, [.ref (kad k 20 0), .int 0, .int 0])), (kad k 20 0, .inl (kA k (ak 20), (4, ra k 20 0 1)))]) 1 rfl (by decide) rfl rfl rfl ti_0 (by decide) (by decide) List.mem_cons_self rfl dX0_init_31 ?_
  refine c_iinc hx 0 (v := 1) (lv' := [(1, .int 1), (0, .ref (kad k 0 0))]) rfl (by decide) (Nat.le_of_ble_eq_true rfl) rfl dX0_init_32 ?_
  refine c_goto hx (tgt := 14) rfl dX0_init_35 ?_
  refine c_iloadn hx 0 rfl rfl dX0_init_14 ?_
  refine c_iconst hx ci_4 dX0_init_15 ?_
  refine c_icge hx (tgt := 38) rfl dX0_init_16 (fun q => absurd q (by decide)) (fun _ => ?_)
  refine c_aloadn hx 1 rfl rfl dX0_init_19 ?_
  refine c_get hx 0 FK0_0 wf_X0_11 rfl rfl dX0_init_20 ?_
  refine c_iloadn hx 0 rfl rfl dX0_init_23 ?_
  refine c_new hx (c := 5) (i := 1) (TT := T5) (ty := t5) (fs := [.int 0, .int 0, .int 0, .int 0]) rfl (xgu iw5) tok5 wcl_X0_9 win_X5 wn_X5 (hA 2 _ rfl) dv5 ⟨Nat.le_of_ble_eq_true rfl, Nat.le_of_ble_eq_true rfl⟩ dX0_init_24 ?_
  refine c_C (C' := (3, 12)) rfl ?_
  refine c_dup hx rfl dX0_init_27 ?_
  refine c_callI hx (As := []) (rest := [.ref (kad k 5 1), .int 1, .ref (kad k 20 0)]) (xs0 := [(kad k 0 0, .inr (0, [.ref (kad k 20 0), .int 0, .int 0])), (kad k 20 0, .inl (kA k (ak 20), (4, ra k 20 0 1)))]) (N := nX5 1) (L' := (lX5 1 (lX5 0 L))) MK_X5_init wi_X5_init wm_X0_17 rfl ⟨Nat.le_of_ble_eq_true rfl, Nat.le_of_ble_eq_true rfl⟩ (mX5_init (k := kR k [(kad k 0 0, .inr (0, [.ref (kad k 20 0), .int 0, .int 0])), (kad k 20 0, .inl (kA k (ak 20), (4, ra k 20 0 1)))]) (i := 1)) rfl (AL_sub hA 3 0 rfl) (hX5) (Nat.le_of_ble_eq_true rfl) rfl rfl (Nat.le_of_ble_eq_true rfl) dX0_init_28 ?_
  refine c_C (C' := (3, 12)) rfl ?_
  refine c_aast hx (t := 20) (i := 0) (m := 1) (N := 4) (TT := T5) (N2 := 4) (xs' := [(kad k 0 0, .inr (0, [.ref (kad k 20 0), .int 0, .int 0])), (kad k 20 0, .inl (kA k (ak 20), (4, ra k 20 0 2)))]) 1 rfl (by decide) rfl rfl rfl ti_1 (by decide) (by decide) List.mem_cons_self rfl dX0_init_31 ?_
  refine c_iinc hx 0 (v := 2) (lv' := [(1, .int 2), (0, .ref (kad k 0 0))]) rfl (by decide) (Nat.le_of_ble_eq_true rfl) rfl dX0_init_32 ?_
  refine c_goto hx (tgt := 14) rfl dX0_init_35 ?_
  refine c_iloadn hx 0 rfl rfl dX0_init_14 ?_
  refine c_iconst hx ci_4 dX0_init_15 ?_
  refine c_icge hx (tgt := 38) rfl dX0_init_16 (fun q => absurd q (by decide)) (fun _ => ?_)
  refine c_aloadn hx 1 rfl rfl dX0_init_19 ?_
  refine c_get hx 0 FK0_0 wf_X0_11 rfl rfl dX0_init_20 ?_
  refine c_iloadn hx 0 rfl rfl dX0_init_23 ?_
  refine c_new hx (c := 5) (i := 2) (TT := T5) (ty := t5) (fs := [.int 0, .int 0, .int 0, .int 0]) rfl (xgu iw5) tok5 wcl_X0_9 win_X5 wn_X5 (hA 3 _ rfl) dv5 ⟨Nat.le_of_ble_eq_true rfl, Nat.le_of_ble_eq_true rfl⟩ dX0_init_24 ?_
  refine c_C (C' := (4, 16)) rfl ?_
  refine c_dup hx rfl dX0_init_27 ?_
  refine c_callI hx (As := []) (rest := [.ref (kad k 5 2), .int 2, .ref (kad k 20 0)]) (xs0 := [(kad k 0 0, .inr (0, [.ref (kad k 20 0), .int 0, .int 0])), (kad k 20 0, .inl (kA k (ak 20), (4, ra k 20 0 2)))]) (N := nX5 2) (L' := (lX5 2 (lX5 1 (lX5 0 L)))) MK_X5_init wi_X5_init wm_X0_17 rfl ⟨Nat.le_of_ble_eq_true rfl, Nat.le_of_ble_eq_true rfl⟩ (mX5_init (k := kR k [(kad k 0 0, .inr (0, [.ref (kad k 20 0), .int 0, .int 0])), (kad k 20 0, .inl (kA k (ak 20), (4, ra k 20 0 2)))]) (i := 2)) rfl (AL_sub hA 4 0 rfl) (hX5) (Nat.le_of_ble_eq_true rfl) rfl rfl (Nat.le_of_ble_eq_true rfl) dX0_init_28 ?_
  refine c_C (C' := (4, 16)) rfl ?_
  refine c_aast hx (t := 20) (i := 0) (m := 2) (N := 4) (TT := T5) (N2 := 4) (xs' := [(kad k 0 0, .inr (0, [.ref (kad k 20 0), .int 0, .int 0])), (kad k 20 0, .inl (kA k (ak 20), (4, ra k 20 0 3)))]) 1 rfl (by decide) rfl rfl rfl ti_2 (by decide) (by decide) List.mem_cons_self rfl dX0_init_31 ?_
  refine c_iinc hx 0 (v := 3) (lv' := [(1, .int 3), (0, .ref (kad k 0 0))]) rfl (by decide) (Nat.le_of_ble_eq_true rfl) rfl dX0_init_32 ?_
  refine c_goto hx (tgt := 14) rfl dX0_init_35 ?_
  refine c_iloadn hx 0 rfl rfl dX0_init_14 ?_
  refine c_iconst hx ci_4 dX0_init_15 ?_
  refine c_icge hx (tgt := 38) rfl dX0_init_16 (fun q => absurd q (by decide)) (fun _ => ?_)
  refine c_aloadn hx 1 rfl rfl dX0_init_19 ?_
  refine c_get hx 0 FK0_0 wf_X0_11 rfl rfl dX0_init_20 ?_
  refine c_iloadn hx 0 rfl rfl dX0_init_23 ?_
  refine c_new hx (c := 5) (i := 3) (TT := T5) (ty := t5) (fs := [.int 0, .int 0, .int 0, .int 0]) rfl (xgu iw5) tok5 wcl_X0_9 win_X5 wn_X5 (hA 4 _ rfl) dv5 ⟨Nat.le_of_ble_eq_true rfl, Nat.le_of_ble_eq_true rfl⟩ dX0_init_24 ?_
  refine c_C (C' := (5, 20)) rfl ?_
  refine c_dup hx rfl dX0_init_27 ?_
  refine c_callI hx (As := []) (rest := [.ref (kad k 5 3), .int 3, .ref (kad k 20 0)]) (xs0 := [(kad k 0 0, .inr (0, [.ref (kad k 20 0), .int 0, .int 0])), (kad k 20 0, .inl (kA k (ak 20), (4, ra k 20 0 3)))]) (N := nX5 3) (L' := (lX5 3 (lX5 2 (lX5 1 (lX5 0 L))))) MK_X5_init wi_X5_init wm_X0_17 rfl ⟨Nat.le_of_ble_eq_true rfl, Nat.le_of_ble_eq_true rfl⟩ (mX5_init (k := kR k [(kad k 0 0, .inr (0, [.ref (kad k 20 0), .int 0, .int 0])), (kad k 20 0, .inl (kA k (ak 20), (4, ra k 20 0 3)))]) (i := 3)) rfl (AL_sub hA 5 0 rfl) (hX5) (Nat.le_of_ble_eq_true rfl) rfl rfl (Nat.le_of_ble_eq_true rfl) dX0_init_28 ?_
  refine c_C (C' := (5, 20)) rfl ?_
  refine c_aast hx (t := 20) (i := 0) (m := 3) (N := 4) (TT := T5) (N2 := 4) (xs' := [(kad k 0 0, .inr (0, [.ref (kad k 20 0), .int 0, .int 0])), (kad k 20 0, .inl (kA k (ak 20), (4, ra k 20 0 4)))]) 1 rfl (by decide) rfl rfl rfl ti_3 (by decide) (by decide) List.mem_cons_self rfl dX0_init_31 ?_
  refine c_iinc hx 0 (v := 4) (lv' := [(1, .int 4), (0, .ref (kad k 0 0))]) rfl (by decide) (Nat.le_of_ble_eq_true rfl) rfl dX0_init_32 ?_
  refine c_goto hx (tgt := 14) rfl dX0_init_35 ?_
  refine c_iloadn hx 0 rfl rfl dX0_init_14 ?_
  refine c_iconst hx ci_4 dX0_init_15 ?_
  refine c_icge hx (tgt := 38) rfl dX0_init_16 (fun _ => ?_) (fun q => absurd (by decide) q)
  refine c_absA (t := 20) (i := 0) (N := 4) (xs0 := [(kad k 0 0, .inr (0, [.ref (kad k 20 0), .int 0, .int 0]))]) (by decide) (by decide) rfl rfl (fun j h => absurd (show (0 : Nat) = 4 from h) (by decide)) ?_
  refine c_absZ (c := 0) (i := 0) (us := []) (fs := [.ref (kad k 20 0), .int 0, .int 0]) (xs0 := []) (by decide) rfl rfl (fun j h => absurd h (getD_ne (by decide) j)) ?_
  exact c_vret hx dX0_init_38
set_option maxRecDepth 20000 in
set_option maxHeartbeats 4000000 in
theorem mX1_init {l : Launch} {k : Kx} {L : List (Nat × Nat)} {μ : Mm} : MC l k 1 yX1_init bX1_init 1 [.ref (kad k 1 0)] L (nX1) (46, 820) μ [(kad k 1 0, .inr (1, [.int 0, .int 0, .null, .null, .null]))] (lX1 L) (iX1 μ) := by
  refine MC.of (lv := [(0, .ref (kad k 1 0))]) (plainFor_of_name (by decide)) rfl (Nat.le_of_ble_eq_true rfl) rfl (fun z hl hx hA => ?_)
  subst hl
  have hx : Oc true z k bX1_init 1 "RopeDance$Memory" 1 (46, 820) := hx
  refine c_aloadn hx 0 rfl rfl dX1_init_0 ?_
  refine c_objInit hx woi_X1 woin woic (Nat.le_of_ble_eq_true rfl) (Nat.le_of_ble_eq_true rfl) dX1_init_1 ?_
  refine c_aloadn hx 0 rfl rfl dX1_init_4 ?_
  refine c_bipush hx cb_40 dX1_init_5 ?_
  refine c_bipush hx cb_18 dX1_init_7 ?_
  refine c_mna hx (t := 21) (i := 0) (off := 0) (n := 40) (m := 18) wcl_X1_11 wac_int rfl (by decide) (by decide) rfl rfl rfl (fun j h => absurd (show (0 : Nat) = 4 from h) (by decide)) (fun j h => absurd (show (0 : Nat) = 4 from h) (by decide)) (fun j => by show (92, j) = (92, 0 + j); rw [Nat.zero_add]) (by decide +kernel) (by decide +kernel) (by decide) (by decide) (by decide) (by decide) ⟨hA 0 _ rfl, fun j hj => ?_⟩ ⟨Nat.le_of_ble_eq_true rfl, Nat.le_of_ble_eq_true rfl⟩ dX1_init_9 ?_
  · have h9 : (nX1)[1 + j]? = some (92, 0 + j) := by revert j; decide
    have h8 := hA _ _ h9
    have h7 : kad k 92 (0 + j) = _ := h8
    rw [h7]
    show _ = (zs z).heap.size + 0 + 1 + j
    omega
  refine c_C (C' := (41, 760)) rfl ?_
  refine c_put hx (ty := (.array (.array .int))) 0 (xs' := [(kad k 1 0, .inr (1, [.int 0, .int 0, .ref (kad k 21 0), .null, .null]))]) FK1_2 wf_X1_13 (by decide +kernel) rfl rfl rfl rfl rfl dX1_init_13 ?_
  refine c_aloadn hx 0 rfl rfl dX1_init_16 ?_
  refine c_iconst hx ci_3 dX1_init_17 ?_
  refine c_bipush hx cb_18 dX1_init_18 ?_
  refine c_mna hx (t := 22) (i := 0) (off := 40) (n := 3) (m := 18) wcl_X1_11 wac_int rfl (by decide) (by decide) rfl rfl rfl (fun j h => absurd (show (0 : Nat) = 4 from h) (by decide)) (fun j h => absurd (show (0 : Nat) = 4 from h) (by decide)) (fun j => rfl) (by decide +kernel) (by decide +kernel) (by decide) (by decide) (by decide) (by decide) ⟨hA 41 _ rfl, fun j hj => ?_⟩ ⟨Nat.le_of_ble_eq_true rfl, Nat.le_of_ble_eq_true rfl⟩ dX1_init_20 ?_
  · have h9 : (nX1)[42 + j]? = some (92, 40 + j) := by revert j; decide
    have h8 := hA _ _ h9
    have h7 : kad k 92 (40 + j) = _ := h8
    rw [h7]
    show _ = (zs z).heap.size + 41 + 1 + j
    omega
  refine c_C (C' := (45, 817)) rfl ?_
  refine c_put hx (ty := (.array (.array .int))) 0 (xs' := [(kad k 1 0, .inr (1, [.int 0, .int 0, .ref (kad k 21 0), .ref (kad k 22 0), .null]))]) FK1_3 wf_X1_16 (by decide +kernel) rfl rfl rfl rfl rfl dX1_init_24 ?_
  refine c_aloadn hx 0 rfl rfl dX1_init_27 ?_
  refine c_iconst hx ci_3 dX1_init_28 ?_
  refine c_newarr hx (t := 23) (i := 0) (N := 3) (atype := .boolean) wac_boolean (by decide) (by decide) rfl (by decide +kernel) rfl (by decide) (by decide) (hA 45 _ rfl) ⟨Nat.le_of_ble_eq_true rfl, Nat.le_of_ble_eq_true rfl⟩ dX1_init_29 ?_
  refine c_C (C' := (46, 820)) rfl ?_
  refine c_put hx (ty := (.array .boolean)) 0 (xs' := [(kad k 1 0, .inr (1, [.int 0, .int 0, .ref (kad k 21 0), .ref (kad k 22 0), .ref (kad k 23 0)]))]) FK1_4 wf_X1_19 (by decide +kernel) rfl rfl rfl rfl rfl dX1_init_31 ?_
  refine c_absZ (c := 1) (i := 0) (us := []) (fs := [.int 0, .int 0, .ref (kad k 21 0), .ref (kad k 22 0), .ref (kad k 23 0)]) (xs0 := []) (by decide) rfl rfl (fun j h => absurd h (getD_ne (by decide) j)) ?_
  exact c_vret hx dX1_init_34
set_option maxRecDepth 20000 in
set_option maxHeartbeats 4000000 in
theorem mX7_init {l : Launch} {k : Kx} {L : List (Nat × Nat)} {μ : Mm} : MC l k 1 yX7_init bX7_init 1 [.ref (kad k 7 0)] L (nX7) (5, 3604) μ [(kad k 7 0, .inr (7, [.int 0, .int 0, .int 0, .int 0, .int 0, .long 0, .null, .null, .null, .null, .null]))] (lX7 L) (iX7 μ) := by
  refine MC.of (lv := [(0, .ref (kad k 7 0))]) (plainFor_of_name (by decide)) rfl (Nat.le_of_ble_eq_true rfl) rfl (fun z hl hx hA => ?_)
  subst hl
  have hx : Oc true z k bX7_init 1 "RopeDance$Tape" 1 (5, 3604) := hx
  refine c_aloadn hx 0 rfl rfl dX7_init_0 ?_
  refine c_objInit hx woi_X7 woin woic (Nat.le_of_ble_eq_true rfl) (Nat.le_of_ble_eq_true rfl) dX7_init_1 ?_
  refine c_aloadn hx 0 rfl rfl dX7_init_4 ?_
  refine c_sipush hx cs_2000 dX7_init_5 ?_
  refine c_newarr hx (t := 29) (i := 0) (N := 2000) (atype := .byte) wac_byte (by decide) (by decide) rfl (by decide +kernel) rfl (by decide) (by decide) (hA 0 _ rfl) ⟨Nat.le_of_ble_eq_true rfl, Nat.le_of_ble_eq_true rfl⟩ dX7_init_8 ?_
  refine c_C (C' := (1, 2000)) rfl ?_
  refine c_put hx (ty := (.array .byte)) 0 (xs' := [(kad k 7 0, .inr (7, [.int 0, .int 0, .int 0, .int 0, .int 0, .long 0, .ref (kad k 29 0), .null, .null, .null, .null]))]) FK7_6 wf_X7_9 (by decide +kernel) rfl rfl rfl rfl rfl dX7_init_10 ?_
  refine c_aloadn hx 0 rfl rfl dX7_init_13 ?_
  refine c_sipush hx cs_401 dX7_init_14 ?_
  refine c_newarr hx (t := 30) (i := 0) (N := 401) (atype := .int) wac_int (by decide) (by decide) rfl (by decide +kernel) rfl (by decide) (by decide) (hA 1 _ rfl) ⟨Nat.le_of_ble_eq_true rfl, Nat.le_of_ble_eq_true rfl⟩ dX7_init_17 ?_
  refine c_C (C' := (2, 2401)) rfl ?_
  refine c_put hx (ty := (.array .int)) 0 (xs' := [(kad k 7 0, .inr (7, [.int 0, .int 0, .int 0, .int 0, .int 0, .long 0, .ref (kad k 29 0), .ref (kad k 30 0), .null, .null, .null]))]) FK7_7 wf_X7_13 (by decide +kernel) rfl rfl rfl rfl rfl dX7_init_19 ?_
  refine c_aloadn hx 0 rfl rfl dX7_init_22 ?_
  refine c_sipush hx cs_401 dX7_init_23 ?_
  refine c_newarr hx (t := 31) (i := 0) (N := 401) (atype := .int) wac_int (by decide) (by decide) rfl (by decide +kernel) rfl (by decide) (by decide) (hA 2 _ rfl) ⟨Nat.le_of_ble_eq_true rfl, Nat.le_of_ble_eq_true rfl⟩ dX7_init_26 ?_
  refine c_C (C' := (3, 2802)) rfl ?_
  refine c_put hx (ty := (.array .int)) 0 (xs' := [(kad k 7 0, .inr (7, [.int 0, .int 0, .int 0, .int 0, .int 0, .long 0, .ref (kad k 29 0), .ref (kad k 30 0), .ref (kad k 31 0), .null, .null]))]) FK7_8 wf_X7_17 (by decide +kernel) rfl rfl rfl rfl rfl dX7_init_28 ?_
  refine c_aloadn hx 0 rfl rfl dX7_init_31 ?_
  refine c_sipush hx cs_401 dX7_init_32 ?_
  refine c_newarr hx (t := 32) (i := 0) (N := 401) (atype := .int) wac_int (by decide) (by decide) rfl (by decide +kernel) rfl (by decide) (by decide) (hA 3 _ rfl) ⟨Nat.le_of_ble_eq_true rfl, Nat.le_of_ble_eq_true rfl⟩ dX7_init_35 ?_
  refine c_C (C' := (4, 3203)) rfl ?_
  refine c_put hx (ty := (.array .int)) 0 (xs' := [(kad k 7 0, .inr (7, [.int 0, .int 0, .int 0, .int 0, .int 0, .long 0, .ref (kad k 29 0), .ref (kad k 30 0), .ref (kad k 31 0), .ref (kad k 32 0), .null]))]) FK7_9 wf_X7_20 (by decide +kernel) rfl rfl rfl rfl rfl dX7_init_37 ?_
  refine c_aloadn hx 0 rfl rfl dX7_init_40 ?_
  refine c_sipush hx cs_401 dX7_init_41 ?_
  refine c_newarr hx (t := 33) (i := 0) (N := 401) (atype := .long) wac_long (by decide) (by decide) rfl (by decide +kernel) rfl (by decide) (by decide) (hA 4 _ rfl) ⟨Nat.le_of_ble_eq_true rfl, Nat.le_of_ble_eq_true rfl⟩ dX7_init_44 ?_
  refine c_C (C' := (5, 3604)) rfl ?_
  refine c_put hx (ty := (.array .long)) 0 (xs' := [(kad k 7 0, .inr (7, [.int 0, .int 0, .int 0, .int 0, .int 0, .long 0, .ref (kad k 29 0), .ref (kad k 30 0), .ref (kad k 31 0), .ref (kad k 32 0), .ref (kad k 33 0)]))]) FK7_10 wf_X7_23 (by decide +kernel) rfl rfl rfl rfl rfl dX7_init_46 ?_
  refine c_absZ (c := 7) (i := 0) (us := []) (fs := [.int 0, .int 0, .int 0, .int 0, .int 0, .long 0, .ref (kad k 29 0), .ref (kad k 30 0), .ref (kad k 31 0), .ref (kad k 32 0), .ref (kad k 33 0)]) (xs0 := []) (by decide) rfl rfl (fun j h => absurd h (getD_ne (by decide) j)) ?_
  exact c_vret hx dX7_init_49
set_option maxRecDepth 20000 in
set_option maxHeartbeats 4000000 in
theorem mX9_init {l : Launch} {k : Kx} {L : List (Nat × Nat)} {μ : Mm} : MC l k 2 yX9_init bX9_init 1 [.ref (kad k 9 0)] L (nX9) (6, 80) μ [(kad k 9 0, .inr (9, [.int 0, .int 0, .int 0, .null, .null, .null, .null, .null, .null]))] (lX9 L) (iX9 μ) := by
  refine MC.of (lv := [(0, .ref (kad k 9 0))]) (plainFor_of_name (by decide)) rfl (Nat.le_of_ble_eq_true rfl) rfl (fun z hl hx hA => ?_)
  subst hl
  have hx : Oc true z k bX9_init 1 "RopeDance$Told" 2 (6, 80) := hx
  refine c_aloadn hx 0 rfl rfl dX9_init_0 ?_
  refine c_objInit hx woi_X9 woin woic (Nat.le_of_ble_eq_true rfl) (Nat.le_of_ble_eq_true rfl) dX9_init_1 ?_
  refine c_aloadn hx 0 rfl rfl dX9_init_4 ?_
  refine c_bipush hx cb_20 dX9_init_5 ?_
  refine c_newarr hx (t := 41) (i := 0) (N := 20) (atype := .int) wac_int (by decide) (by decide) rfl (by decide +kernel) rfl (by decide) (by decide) (hA 0 _ rfl) ⟨Nat.le_of_ble_eq_true rfl, Nat.le_of_ble_eq_true rfl⟩ dX9_init_7 ?_
  refine c_C (C' := (1, 20)) rfl ?_
  refine c_put hx (ty := (.array .int)) 0 (xs' := [(kad k 9 0, .inr (9, [.int 0, .int 0, .int 0, .ref (kad k 41 0), .null, .null, .null, .null, .null]))]) FK9_3 wf_X9_11 (by decide +kernel) rfl rfl rfl rfl rfl dX9_init_9 ?_
  refine c_aloadn hx 0 rfl rfl dX9_init_12 ?_
  refine c_bipush hx cb_20 dX9_init_13 ?_
  refine c_newarr hx (t := 42) (i := 0) (N := 20) (atype := .int) wac_int (by decide) (by decide) rfl (by decide +kernel) rfl (by decide) (by decide) (hA 1 _ rfl) ⟨Nat.le_of_ble_eq_true rfl, Nat.le_of_ble_eq_true rfl⟩ dX9_init_15 ?_
  refine c_C (C' := (2, 40)) rfl ?_
  refine c_put hx (ty := (.array .int)) 0 (xs' := [(kad k 9 0, .inr (9, [.int 0, .int 0, .int 0, .ref (kad k 41 0), .ref (kad k 42 0), .null, .null, .null, .null]))]) FK9_4 wf_X9_15 (by decide +kernel) rfl rfl rfl rfl rfl dX9_init_17 ?_
  refine c_aloadn hx 0 rfl rfl dX9_init_20 ?_
  refine c_bipush hx cb_20 dX9_init_21 ?_
  refine c_newarr hx (t := 43) (i := 0) (N := 20) (atype := .boolean) wac_boolean (by decide) (by decide) rfl (by decide +kernel) rfl (by decide) (by decide) (hA 2 _ rfl) ⟨Nat.le_of_ble_eq_true rfl, Nat.le_of_ble_eq_true rfl⟩ dX9_init_23 ?_
  refine c_C (C' := (3, 60)) rfl ?_
  refine c_put hx (ty := (.array .boolean)) 0 (xs' := [(kad k 9 0, .inr (9, [.int 0, .int 0, .int 0, .ref (kad k 41 0), .ref (kad k 42 0), .ref (kad k 43 0), .null, .null, .null]))]) FK9_5 wf_X9_18 (by decide +kernel) rfl rfl rfl rfl rfl dX9_init_25 ?_
  refine c_aloadn hx 0 rfl rfl dX9_init_28 ?_
  refine c_new hx (c := 5) (i := 8) (TT := T5) (ty := t5) (fs := [.int 0, .int 0, .int 0, .int 0]) rfl (xgu iw5) tok5 wcl_X9_22 win_X5 wn_X5 (hA 3 _ rfl) dv5 ⟨Nat.le_of_ble_eq_true rfl, Nat.le_of_ble_eq_true rfl⟩ dX9_init_29 ?_
  refine c_C (C' := (4, 64)) rfl ?_
  refine c_dup hx rfl dX9_init_32 ?_
  refine c_callI hx (As := []) (rest := [.ref (kad k 5 8), .ref (kad k 9 0)]) (xs0 := [(kad k 9 0, .inr (9, [.int 0, .int 0, .int 0, .ref (kad k 41 0), .ref (kad k 42 0), .ref (kad k 43 0), .null, .null, .null]))]) (N := nX5 8) (L' := (lX5 8 ((43, 0) :: ((42, 0) :: ((41, 0) :: L))))) MK_X5_init wi_X5_init wm_X9_24 rfl ⟨Nat.le_of_ble_eq_true rfl, Nat.le_of_ble_eq_true rfl⟩ (mX5_init (k := kR k [(kad k 9 0, .inr (9, [.int 0, .int 0, .int 0, .ref (kad k 41 0), .ref (kad k 42 0), .ref (kad k 43 0), .null, .null, .null]))]) (i := 8)) rfl (AL_sub hA 4 0 rfl) (hX5) (Nat.le_of_ble_eq_true rfl) rfl rfl (Nat.le_of_ble_eq_true rfl) dX9_init_33 ?_
  refine c_C (C' := (4, 64)) rfl ?_
  refine c_put hx (ty := (.object "RopeDance$Square")) 0 (xs' := [(kad k 9 0, .inr (9, [.int 0, .int 0, .int 0, .ref (kad k 41 0), .ref (kad k 42 0), .ref (kad k 43 0), .ref (kad k 5 8), .null, .null]))]) FK9_6 wf_X9_25 (by decide +kernel) rfl rfl rfl rfl rfl dX9_init_36 ?_
  refine c_aloadn hx 0 rfl rfl dX9_init_39 ?_
  refine c_iconst hx ci_4 dX9_init_40 ?_
  refine c_newarr hx (t := 44) (i := 0) (N := 4) (atype := .int) wac_int (by decide) (by decide) rfl (by decide +kernel) rfl (by decide) (by decide) (hA 4 _ rfl) ⟨Nat.le_of_ble_eq_true rfl, Nat.le_of_ble_eq_true rfl⟩ dX9_init_41 ?_
  refine c_C (C' := (5, 68)) rfl ?_
  refine c_put hx (ty := (.array .int)) 0 (xs' := [(kad k 9 0, .inr (9, [.int 0, .int 0, .int 0, .ref (kad k 41 0), .ref (kad k 42 0), .ref (kad k 43 0), .ref (kad k 5 8), .ref (kad k 44 0), .null]))]) FK9_7 wf_X9_29 (by decide +kernel) rfl rfl rfl rfl rfl dX9_init_43 ?_
  refine c_aloadn hx 0 rfl rfl dX9_init_46 ?_
  refine c_bipush hx cb_12 dX9_init_47 ?_
  refine c_newarr hx (t := 45) (i := 0) (N := 12) (atype := .int) wac_int (by decide) (by decide) rfl (by decide +kernel) rfl (by decide) (by decide) (hA 5 _ rfl) ⟨Nat.le_of_ble_eq_true rfl, Nat.le_of_ble_eq_true rfl⟩ dX9_init_49 ?_
  refine c_C (C' := (6, 80)) rfl ?_
  refine c_put hx (ty := (.array .int)) 0 (xs' := [(kad k 9 0, .inr (9, [.int 0, .int 0, .int 0, .ref (kad k 41 0), .ref (kad k 42 0), .ref (kad k 43 0), .ref (kad k 5 8), .ref (kad k 44 0), .ref (kad k 45 0)]))]) FK9_8 wf_X9_32 (by decide +kernel) rfl rfl rfl rfl rfl dX9_init_51 ?_
  refine c_absZ (c := 9) (i := 0) (us := []) (fs := [.int 0, .int 0, .int 0, .ref (kad k 41 0), .ref (kad k 42 0), .ref (kad k 43 0), .ref (kad k 5 8), .ref (kad k 44 0), .ref (kad k 45 0)]) (xs0 := []) (by decide) rfl rfl (fun j h => absurd h (getD_ne (by decide) j)) ?_
  exact c_vret hx dX9_init_54
set_option maxRecDepth 20000 in
set_option maxHeartbeats 4000000 in
theorem mX4_init {l : Launch} {k : Kx} {L : List (Nat × Nat)} {μ : Mm} : MC l k 2 yX4_init bX4_init 1 [.ref (kad k 4 0)] L (nX4) (3, 31920) μ [(kad k 4 0, .inr (4, [.int 0, .int 0, .null, .null, .null]))] (lX4 L) (iX4 μ) := by
  refine MC.of (lv := [(0, .ref (kad k 4 0))]) (plainFor_of_name (by decide)) rfl (Nat.le_of_ble_eq_true rfl) rfl (fun z hl hx hA => ?_)
  subst hl
  have hx : Oc true z k bX4_init 1 "RopeDance$Search" 2 (3, 31920) := hx
  refine c_aloadn hx 0 rfl rfl dX4_init_0 ?_
  refine c_objInit hx woi_X4 woin woic (Nat.le_of_ble_eq_true rfl) (Nat.le_of_ble_eq_true rfl) dX4_init_1 ?_
  refine c_aloadn hx 0 rfl rfl dX4_init_4 ?_
  refine c_sipush hx cs_12016 dX4_init_5 ?_
  refine c_newarr hx (t := 27) (i := 0) (N := 12016) (atype := .int) wac_int (by decide) (by decide) rfl (by decide +kernel) rfl (by decide) (by decide) (hA 0 _ rfl) ⟨Nat.le_of_ble_eq_true rfl, Nat.le_of_ble_eq_true rfl⟩ dX4_init_8 ?_
  refine c_C (C' := (1, 12016)) rfl ?_
  refine c_put hx (ty := (.array .int)) 0 (xs' := [(kad k 4 0, .inr (4, [.int 0, .int 0, .ref (kad k 27 0), .null, .null]))]) FK4_2 wf_X4_13 (by decide +kernel) rfl rfl rfl rfl rfl dX4_init_10 ?_
  refine c_aloadn hx 0 rfl rfl dX4_init_13 ?_
  refine c_sipush hx cs_19900 dX4_init_14 ?_
  refine c_newarr hx (t := 28) (i := 0) (N := 19900) (atype := .int) wac_int (by decide) (by decide) rfl (by decide +kernel) rfl (by decide) (by decide) (hA 1 _ rfl) ⟨Nat.le_of_ble_eq_true rfl, Nat.le_of_ble_eq_true rfl⟩ dX4_init_17 ?_
  refine c_C (C' := (2, 31916)) rfl ?_
  refine c_put hx (ty := (.array .int)) 0 (xs' := [(kad k 4 0, .inr (4, [.int 0, .int 0, .ref (kad k 27 0), .ref (kad k 28 0), .null]))]) FK4_3 wf_X4_19 (by decide +kernel) rfl rfl rfl rfl rfl dX4_init_19 ?_
  refine c_aloadn hx 0 rfl rfl dX4_init_22 ?_
  refine c_new hx (c := 5) (i := 9) (TT := T5) (ty := t5) (fs := [.int 0, .int 0, .int 0, .int 0]) rfl (xgu iw5) tok5 wcl_X4_1 win_X5 wn_X5 (hA 2 _ rfl) dv5 ⟨Nat.le_of_ble_eq_true rfl, Nat.le_of_ble_eq_true rfl⟩ dX4_init_23 ?_
  refine c_C (C' := (3, 31920)) rfl ?_
  refine c_dup hx rfl dX4_init_26 ?_
  refine c_callI hx (As := []) (rest := [.ref (kad k 5 9), .ref (kad k 4 0)]) (xs0 := [(kad k 4 0, .inr (4, [.int 0, .int 0, .ref (kad k 27 0), .ref (kad k 28 0), .null]))]) (N := nX5 9) (L' := (lX5 9 ((28, 0) :: ((27, 0) :: L)))) MK_X5_init wi_X5_init wm_X4_22 rfl ⟨Nat.le_of_ble_eq_true rfl, Nat.le_of_ble_eq_true rfl⟩ (mX5_init (k := kR k [(kad k 4 0, .inr (4, [.int 0, .int 0, .ref (kad k 27 0), .ref (kad k 28 0), .null]))]) (i := 9)) rfl (AL_sub hA 3 0 rfl) (hX5) (Nat.le_of_ble_eq_true rfl) rfl rfl (Nat.le_of_ble_eq_true rfl) dX4_init_27 ?_
  refine c_C (C' := (3, 31920)) rfl ?_
  refine c_put hx (ty := (.object "RopeDance$Square")) 0 (xs' := [(kad k 4 0, .inr (4, [.int 0, .int 0, .ref (kad k 27 0), .ref (kad k 28 0), .ref (kad k 5 9)]))]) FK4_4 wf_X4_23 (by decide +kernel) rfl rfl rfl rfl rfl dX4_init_30 ?_
  refine c_aloadn hx 0 rfl rfl dX4_init_33 ?_
  refine c_iconst hx ci_m1 dX4_init_34 ?_
  refine c_put hx (ty := .int) 0 (xs' := [(kad k 4 0, .inr (4, [.int 0, .int (-1), .ref (kad k 27 0), .ref (kad k 28 0), .ref (kad k 5 9)]))]) FK4_1 wf_X4_27 (by decide +kernel) rfl rfl rfl rfl rfl dX4_init_35 ?_
  refine c_absZ (c := 4) (i := 0) (us := [(1, (-1))]) (fs := [.int 0, .int (-1), .ref (kad k 27 0), .ref (kad k 28 0), .ref (kad k 5 9)]) (xs0 := []) (by decide) rfl rfl (fun j h => absurd h (getD_ne (by decide) j)) ?_
  exact c_vret hx dX4_init_38
set_option maxRecDepth 20000 in
set_option maxHeartbeats 4000000 in
theorem mX2_init {l : Launch} {k : Kx} {L : List (Nat × Nat)} {μ : Mm} : MC l k 2 yX2_init bX2_init 3 [.ref (kad k 2 0), .ref (kad k 7 0), .ref (kad k 8 1)] L (nX2) (2, 36) μ [(kad k 2 0, .inr (2, [.int 0, .int 0, .null, .null, .int 0, .int 0, .null, .int 0, .int 0, .null]))] (lX2 L) (iX2 μ) := by
  refine MC.of (lv := [(0, .ref (kad k 2 0)), (1, .ref (kad k 7 0)), (2, .ref (kad k 8 1))]) (plainFor_of_name (by decide)) rfl (Nat.le_of_ble_eq_true rfl) rfl (fun z hl hx hA => ?_)
  subst hl
  have hx : Oc true z k bX2_init 3 "RopeDance$Reader" 2 (2, 36) := hx
  refine c_aloadn hx 0 rfl rfl dX2_init_0 ?_
  refine c_objInit hx woi_X2 woin woic (Nat.le_of_ble_eq_true rfl) (Nat.le_of_ble_eq_true rfl) dX2_init_1 ?_
  refine c_aloadn hx 0 rfl rfl dX2_init_4 ?_
  refine c_aloadn hx 1 rfl rfl dX2_init_5 ?_
  refine c_put hx (ty := (.object "RopeDance$Tape")) 0 (xs' := [(kad k 2 0, .inr (2, [.int 0, .int 0, .ref (kad k 7 0), .null, .int 0, .int 0, .null, .int 0, .int 0, .null]))]) FK2_2 wf_X2_9 (by decide +kernel) rfl rfl rfl rfl rfl dX2_init_6 ?_
  refine c_aloadn hx 0 rfl rfl dX2_init_9 ?_
  refine c_aloadn hx 2 rfl rfl dX2_init_10 ?_
  refine c_put hx (ty := (.object "RopeDance$Text")) 0 (xs' := [(kad k 2 0, .inr (2, [.int 0, .int 0, .ref (kad k 7 0), .ref (kad k 8 1), .int 0, .int 0, .null, .int 0, .int 0, .null]))]) FK2_3 wf_X2_15 (by decide +kernel) rfl rfl rfl rfl rfl dX2_init_11 ?_
  refine c_aloadn hx 0 rfl rfl dX2_init_14 ?_
  refine c_bipush hx cb_32 dX2_init_15 ?_
  refine c_newarr hx (t := 24) (i := 0) (N := 32) (atype := .int) wac_int (by decide) (by decide) rfl (by decide +kernel) rfl (by decide) (by decide) (hA 0 _ rfl) ⟨Nat.le_of_ble_eq_true rfl, Nat.le_of_ble_eq_true rfl⟩ dX2_init_17 ?_
  refine c_C (C' := (1, 32)) rfl ?_
  refine c_put hx (ty := (.array .int)) 0 (xs' := [(kad k 2 0, .inr (2, [.int 0, .int 0, .ref (kad k 7 0), .ref (kad k 8 1), .int 0, .int 0, .ref (kad k 24 0), .int 0, .int 0, .null]))]) FK2_6 wf_X2_19 (by decide +kernel) rfl rfl rfl rfl rfl dX2_init_19 ?_
  refine c_aloadn hx 0 rfl rfl dX2_init_22 ?_
  refine c_new hx (c := 5) (i := 7) (TT := T5) (ty := t5) (fs := [.int 0, .int 0, .int 0, .int 0]) rfl (xgu iw5) tok5 wcl_X2_23 win_X5 wn_X5 (hA 1 _ rfl) dv5 ⟨Nat.le_of_ble_eq_true rfl, Nat.le_of_ble_eq_true rfl⟩ dX2_init_23 ?_
  refine c_C (C' := (2, 36)) rfl ?_
  refine c_dup hx rfl dX2_init_26 ?_
  refine c_callI hx (As := []) (rest := [.ref (kad k 5 7), .ref (kad k 2 0)]) (xs0 := [(kad k 2 0, .inr (2, [.int 0, .int 0, .ref (kad k 7 0), .ref (kad k 8 1), .int 0, .int 0, .ref (kad k 24 0), .int 0, .int 0, .null]))]) (N := nX5 7) (L' := (lX5 7 ((24, 0) :: L))) MK_X5_init wi_X5_init wm_X2_25 rfl ⟨Nat.le_of_ble_eq_true rfl, Nat.le_of_ble_eq_true rfl⟩ (mX5_init (k := kR k [(kad k 2 0, .inr (2, [.int 0, .int 0, .ref (kad k 7 0), .ref (kad k 8 1), .int 0, .int 0, .ref (kad k 24 0), .int 0, .int 0, .null]))]) (i := 7)) rfl (AL_sub hA 2 0 rfl) (hX5) (Nat.le_of_ble_eq_true rfl) rfl rfl (Nat.le_of_ble_eq_true rfl) dX2_init_27 ?_
  refine c_C (C' := (2, 36)) rfl ?_
  refine c_put hx (ty := (.object "RopeDance$Square")) 0 (xs' := [(kad k 2 0, .inr (2, [.int 0, .int 0, .ref (kad k 7 0), .ref (kad k 8 1), .int 0, .int 0, .ref (kad k 24 0), .int 0, .int 0, .ref (kad k 5 7)]))]) FK2_9 wf_X2_26 (by decide +kernel) rfl rfl rfl rfl rfl dX2_init_30 ?_
  refine c_aloadn hx 0 rfl rfl dX2_init_33 ?_
  refine c_iconst hx ci_m1 dX2_init_34 ?_
  refine c_put hx (ty := .int) 0 (xs' := [(kad k 2 0, .inr (2, [.int 0, .int (-1), .ref (kad k 7 0), .ref (kad k 8 1), .int 0, .int 0, .ref (kad k 24 0), .int 0, .int 0, .ref (kad k 5 7)]))]) FK2_1 wf_X2_30 (by decide +kernel) rfl rfl rfl rfl rfl dX2_init_35 ?_
  refine c_absZ (c := 2) (i := 0) (us := [(3, 1), (1, (-1))]) (fs := [.int 0, .int (-1), .ref (kad k 7 0), .ref (kad k 8 1), .int 0, .int 0, .ref (kad k 24 0), .int 0, .int 0, .ref (kad k 5 7)]) (xs0 := []) (by decide) rfl rfl (fun j h => absurd h (getD_ne (by decide) j)) ?_
  exact c_vret hx dX2_init_38
set_option maxRecDepth 20000 in
set_option maxHeartbeats 4000000 in
theorem mX8_0_init {l : Launch} {k : Kx} {F : Nat} {L : List (Nat × Nat)} {μ : Mm} {μ' : Mm} (hk : kok (kL k (lX8_0 L))) (hf : fX8_init F 0 (iX8_0 μ) = some μ') : MC l k 3 yX8_init bX8_init 2 [.ref (kad k 8 0)] L (nX8_0) (44, 691) μ [(kad k 8 0, .inr (8, [.int 0, .int 0, .int 0, .null, .null, .int 0, .null, .int 0, .null, .null, .null, .null, .null]))] (lX8_0 L) (μ') := by
  refine MC.of (lv := [(0, .ref (kad k 8 0))]) (plainFor_of_name (by decide)) rfl (Nat.le_of_ble_eq_true rfl) rfl (fun z hl hx hA => ?_)
  subst hl
  have hx : Oc true z k bX8_init 2 "RopeDance$Text" 3 (44, 691) := hx
  refine c_aloadn hx 0 rfl rfl dX8_init_0 ?_
  refine c_objInit hx woi_X8 woin woic (Nat.le_of_ble_eq_true rfl) (Nat.le_of_ble_eq_true rfl) dX8_init_1 ?_
  refine c_aloadn hx 0 rfl rfl dX8_init_4 ?_
  refine c_iconst hx ci_4 dX8_init_5 ?_
  refine c_anew hx (t := 34) (i := 0) (N := 4) wcl_X8_9 hx.2.2.2.2.2.2.2.2.2.2.2.2.1 (by decide) rfl (by decide +kernel) rfl (by decide) (by decide) (hA 0 _ rfl) ⟨Nat.le_of_ble_eq_true rfl, Nat.le_of_ble_eq_true rfl⟩ dX8_init_6 ?_
  refine c_C (C' := (1, 4)) rfl ?_
  refine c_put hx (ty := (.array (.object "RopeDance$Row"))) 0 (xs' := [(kad k 8 0, .inr (8, [.int 0, .int 0, .int 0, .ref (kad k 34 0), .null, .int 0, .null, .int 0, .null, .null, .null, .null, .null])), (kad k 34 0, .inl (kA k (ak 34), (4, ra k 34 0 0)))]) FK8_3 wf_X8_11 (by decide +kernel) rfl rfl rfl rfl rfl dX8_init_9 ?_
  refine c_iconst hx ci_0 dX8_init_12 ?_
  refine c_istoren hx (lv' := [(1, .int 0), (0, .ref (kad k 8 0))]) rfl (Nat.le_of_ble_eq_true rfl) rfl dX8_init_13 ?_
  refine c_iloadn hx 0 rfl rfl dX8_init_14 ?_
  refine c_iconst hx ci_4 dX8_init_15 ?_
  refine c_icge hx (tgt := 38) rfl dX8_init_16 (fun q => absurd q (by decide)) (fun _ => ?_)
  refine c_aloadn hx 1 rfl rfl dX8_init_19 ?_
  refine c_get hx 0 FK8_3 wf_X8_11 rfl rfl dX8_init_20 ?_
  refine c_iloadn hx 0 rfl rfl dX8_init_23 ?_
  refine c_new hx (c := 3) (i := 0) (TT := T3) (ty := t3) (fs := [.int 0, .null, .null, .null]) rfl (xgu iw3) tok3 wcl_X8_9 win_X3 wn_X3 (hA 1 _ rfl) dv3 ⟨Nat.le_of_ble_eq_true rfl, Nat.le_of_ble_eq_true rfl⟩ dX8_init_24 ?_
  refine c_C (C' := (2, 8)) rfl ?_
  refine c_dup hx rfl dX8_init_27 ?_
  refine c_callI hx (As := []) (rest := [.ref (kad k 3 0), .int 0, .ref (kad k 34 0)]) (xs0 := [(kad k 8 0, .inr (8, [.int 0, .int 0, .int 0, .ref (kad k 34 0), .null, .int 0, .null, .int 0, .null, .null, .null, .null, .null])), (kad k 34 0, .inl (kA k (ak 34), (4, ra k 34 0 0)))]) (N := nX3 0) (L' := (lX3 0 L)) MK_X3_init wi_X3_init wm_X8_15 rfl ⟨Nat.le_of_ble_eq_true rfl, Nat.le_of_ble_eq_true rfl⟩ (mX3_init (k := kR k [(kad k 8 0, .inr (8, [.int 0, .int 0, .int 0, .ref (kad k 34 0), .null, .int 0, .null, .int 0, .null, .null, .null, .null, .null])), (kad k 34 0, .inl (kA k (ak 34), (4, ra k 34 0 0)))]) (i := 0)) rfl (AL_sub hA 2 3 rfl) (hX3) (Nat.le_of_ble_eq_true rfl) rfl rfl (Nat.le_of_ble_eq_true rfl) dX8_init_28 ?_
  refine c_C (C' := (5, 28)) rfl ?_
  refine c_aast hx (t := 34) (i := 0) (m := 0) (N := 4) (TT := T3) (N2 := 4) (xs' := [(kad k 8 0, .inr (8, [.int 0, .int 0, .int 0, .ref (kad k 34 0), .null, .int 0, .null, .int 0, .null, .null, .null, .null, .null])), (kad k 34 0, .inl (kA k (ak 34), (4, ra k 34 0 1)))]) 1 rfl (by decide) rfl rfl rfl ti_0 (by decide) (by decide) List.mem_cons_self rfl dX8_init_31 ?_
  refine c_iinc hx 0 (v := 1) (lv' := [(1, .int 1), (0, .ref (kad k 8 0))]) rfl (by decide) (Nat.le_of_ble_eq_true rfl) rfl dX8_init_32 ?_
  refine c_goto hx (tgt := 14) rfl dX8_init_35 ?_
  refine c_iloadn hx 0 rfl rfl dX8_init_14 ?_
  refine c_iconst hx ci_4 dX8_init_15 ?_
  refine c_icge hx (tgt := 38) rfl dX8_init_16 (fun q => absurd q (by decide)) (fun _ => ?_)
  refine c_aloadn hx 1 rfl rfl dX8_init_19 ?_
  refine c_get hx 0 FK8_3 wf_X8_11 rfl rfl dX8_init_20 ?_
  refine c_iloadn hx 0 rfl rfl dX8_init_23 ?_
  refine c_new hx (c := 3) (i := 1) (TT := T3) (ty := t3) (fs := [.int 0, .null, .null, .null]) rfl (xgu iw3) tok3 wcl_X8_9 win_X3 wn_X3 (hA 5 _ rfl) dv3 ⟨Nat.le_of_ble_eq_true rfl, Nat.le_of_ble_eq_true rfl⟩ dX8_init_24 ?_
  refine c_C (C' := (6, 32)) rfl ?_
  refine c_dup hx rfl dX8_init_27 ?_
  refine c_callI hx (As := []) (rest := [.ref (kad k 3 1), .int 1, .ref (kad k 34 0)]) (xs0 := [(kad k 8 0, .inr (8, [.int 0, .int 0, .int 0, .ref (kad k 34 0), .null, .int 0, .null, .int 0, .null, .null, .null, .null, .null])), (kad k 34 0, .inl (kA k (ak 34), (4, ra k 34 0 1)))]) (N := nX3 1) (L' := (lX3 1 (lX3 0 L))) MK_X3_init wi_X3_init wm_X8_15 rfl ⟨Nat.le_of_ble_eq_true rfl, Nat.le_of_ble_eq_true rfl⟩ (mX3_init (k := kR k [(kad k 8 0, .inr (8, [.int 0, .int 0, .int 0, .ref (kad k 34 0), .null, .int 0, .null, .int 0, .null, .null, .null, .null, .null])), (kad k 34 0, .inl (kA k (ak 34), (4, ra k 34 0 1)))]) (i := 1)) rfl (AL_sub hA 6 3 rfl) (hX3) (Nat.le_of_ble_eq_true rfl) rfl rfl (Nat.le_of_ble_eq_true rfl) dX8_init_28 ?_
  refine c_C (C' := (9, 52)) rfl ?_
  refine c_aast hx (t := 34) (i := 0) (m := 1) (N := 4) (TT := T3) (N2 := 4) (xs' := [(kad k 8 0, .inr (8, [.int 0, .int 0, .int 0, .ref (kad k 34 0), .null, .int 0, .null, .int 0, .null, .null, .null, .null, .null])), (kad k 34 0, .inl (kA k (ak 34), (4, ra k 34 0 2)))]) 1 rfl (by decide) rfl rfl rfl ti_1 (by decide) (by decide) List.mem_cons_self rfl dX8_init_31 ?_
  refine c_iinc hx 0 (v := 2) (lv' := [(1, .int 2), (0, .ref (kad k 8 0))]) rfl (by decide) (Nat.le_of_ble_eq_true rfl) rfl dX8_init_32 ?_
  refine c_goto hx (tgt := 14) rfl dX8_init_35 ?_
  refine c_iloadn hx 0 rfl rfl dX8_init_14 ?_
  refine c_iconst hx ci_4 dX8_init_15 ?_
  refine c_icge hx (tgt := 38) rfl dX8_init_16 (fun q => absurd q (by decide)) (fun _ => ?_)
  refine c_aloadn hx 1 rfl rfl dX8_init_19 ?_
  refine c_get hx 0 FK8_3 wf_X8_11 rfl rfl dX8_init_20 ?_
  refine c_iloadn hx 0 rfl rfl dX8_init_23 ?_
  refine c_new hx (c := 3) (i := 2) (TT := T3) (ty := t3) (fs := [.int 0, .null, .null, .null]) rfl (xgu iw3) tok3 wcl_X8_9 win_X3 wn_X3 (hA 9 _ rfl) dv3 ⟨Nat.le_of_ble_eq_true rfl, Nat.le_of_ble_eq_true rfl⟩ dX8_init_24 ?_
  refine c_C (C' := (10, 56)) rfl ?_
  refine c_dup hx rfl dX8_init_27 ?_
  refine c_callI hx (As := []) (rest := [.ref (kad k 3 2), .int 2, .ref (kad k 34 0)]) (xs0 := [(kad k 8 0, .inr (8, [.int 0, .int 0, .int 0, .ref (kad k 34 0), .null, .int 0, .null, .int 0, .null, .null, .null, .null, .null])), (kad k 34 0, .inl (kA k (ak 34), (4, ra k 34 0 2)))]) (N := nX3 2) (L' := (lX3 2 (lX3 1 (lX3 0 L)))) MK_X3_init wi_X3_init wm_X8_15 rfl ⟨Nat.le_of_ble_eq_true rfl, Nat.le_of_ble_eq_true rfl⟩ (mX3_init (k := kR k [(kad k 8 0, .inr (8, [.int 0, .int 0, .int 0, .ref (kad k 34 0), .null, .int 0, .null, .int 0, .null, .null, .null, .null, .null])), (kad k 34 0, .inl (kA k (ak 34), (4, ra k 34 0 2)))]) (i := 2)) rfl (AL_sub hA 10 3 rfl) (hX3) (Nat.le_of_ble_eq_true rfl) rfl rfl (Nat.le_of_ble_eq_true rfl) dX8_init_28 ?_
  refine c_C (C' := (13, 76)) rfl ?_
  refine c_aast hx (t := 34) (i := 0) (m := 2) (N := 4) (TT := T3) (N2 := 4) (xs' := [(kad k 8 0, .inr (8, [.int 0, .int 0, .int 0, .ref (kad k 34 0), .null, .int 0, .null, .int 0, .null, .null, .null, .null, .null])), (kad k 34 0, .inl (kA k (ak 34), (4, ra k 34 0 3)))]) 1 rfl (by decide) rfl rfl rfl ti_2 (by decide) (by decide) List.mem_cons_self rfl dX8_init_31 ?_
  refine c_iinc hx 0 (v := 3) (lv' := [(1, .int 3), (0, .ref (kad k 8 0))]) rfl (by decide) (Nat.le_of_ble_eq_true rfl) rfl dX8_init_32 ?_
  refine c_goto hx (tgt := 14) rfl dX8_init_35 ?_
  refine c_iloadn hx 0 rfl rfl dX8_init_14 ?_
  refine c_iconst hx ci_4 dX8_init_15 ?_
  refine c_icge hx (tgt := 38) rfl dX8_init_16 (fun q => absurd q (by decide)) (fun _ => ?_)
  refine c_aloadn hx 1 rfl rfl dX8_init_19 ?_
  refine c_get hx 0 FK8_3 wf_X8_11 rfl rfl dX8_init_20 ?_
  refine c_iloadn hx 0 rfl rfl dX8_init_23 ?_
  refine c_new hx (c := 3) (i := 3) (TT := T3) (ty := t3) (fs := [.int 0, .null, .null, .null]) rfl (xgu iw3) tok3 wcl_X8_9 win_X3 wn_X3 (hA 13 _ rfl) dv3 ⟨Nat.le_of_ble_eq_true rfl, Nat.le_of_ble_eq_true rfl⟩ dX8_init_24 ?_
  refine c_C (C' := (14, 80)) rfl ?_
  refine c_dup hx rfl dX8_init_27 ?_
  refine c_callI hx (As := []) (rest := [.ref (kad k 3 3), .int 3, .ref (kad k 34 0)]) (xs0 := [(kad k 8 0, .inr (8, [.int 0, .int 0, .int 0, .ref (kad k 34 0), .null, .int 0, .null, .int 0, .null, .null, .null, .null, .null])), (kad k 34 0, .inl (kA k (ak 34), (4, ra k 34 0 3)))]) (N := nX3 3) (L' := (lX3 3 (lX3 2 (lX3 1 (lX3 0 L))))) MK_X3_init wi_X3_init wm_X8_15 rfl ⟨Nat.le_of_ble_eq_true rfl, Nat.le_of_ble_eq_true rfl⟩ (mX3_init (k := kR k [(kad k 8 0, .inr (8, [.int 0, .int 0, .int 0, .ref (kad k 34 0), .null, .int 0, .null, .int 0, .null, .null, .null, .null, .null])), (kad k 34 0, .inl (kA k (ak 34), (4, ra k 34 0 3)))]) (i := 3)) rfl (AL_sub hA 14 3 rfl) (hX3) (Nat.le_of_ble_eq_true rfl) rfl rfl (Nat.le_of_ble_eq_true rfl) dX8_init_28 ?_
  refine c_C (C' := (17, 100)) rfl ?_
  refine c_aast hx (t := 34) (i := 0) (m := 3) (N := 4) (TT := T3) (N2 := 4) (xs' := [(kad k 8 0, .inr (8, [.int 0, .int 0, .int 0, .ref (kad k 34 0), .null, .int 0, .null, .int 0, .null, .null, .null, .null, .null])), (kad k 34 0, .inl (kA k (ak 34), (4, ra k 34 0 4)))]) 1 rfl (by decide) rfl rfl rfl ti_3 (by decide) (by decide) List.mem_cons_self rfl dX8_init_31 ?_
  refine c_iinc hx 0 (v := 4) (lv' := [(1, .int 4), (0, .ref (kad k 8 0))]) rfl (by decide) (Nat.le_of_ble_eq_true rfl) rfl dX8_init_32 ?_
  refine c_goto hx (tgt := 14) rfl dX8_init_35 ?_
  refine c_iloadn hx 0 rfl rfl dX8_init_14 ?_
  refine c_iconst hx ci_4 dX8_init_15 ?_
  refine c_icge hx (tgt := 38) rfl dX8_init_16 (fun _ => ?_) (fun q => absurd (by decide) q)
  refine c_absA (t := 34) (i := 0) (N := 4) (xs0 := [(kad k 8 0, .inr (8, [.int 0, .int 0, .int 0, .ref (kad k 34 0), .null, .int 0, .null, .int 0, .null, .null, .null, .null, .null]))]) (by decide) (by decide) rfl rfl (fun j h => absurd (show (0 : Nat) = 4 from h) (by decide)) ?_
  refine c_aloadn hx 1 rfl rfl dX8_init_38 ?_
  refine c_iconst hx ci_5 dX8_init_39 ?_
  refine c_anew hx (t := 35) (i := 0) (N := 5) wcl_X8_9 hx.2.2.2.2.2.2.2.2.2.2.2.2.1 (by decide) rfl (by decide +kernel) rfl (by decide) (by decide) (hA 17 _ rfl) ⟨Nat.le_of_ble_eq_true rfl, Nat.le_of_ble_eq_true rfl⟩ dX8_init_40 ?_
  refine c_C (C' := (18, 105)) rfl ?_
  refine c_put hx (ty := (.array (.object "RopeDance$Row"))) 0 (xs' := [(kad k 8 0, .inr (8, [.int 0, .int 0, .int 0, .ref (kad k 34 0), .ref (kad k 35 0), .int 0, .null, .int 0, .null, .null, .null, .null, .null])), (kad k 35 0, .inl (kA k (ak 35), (5, ra k 35 0 0)))]) FK8_4 wf_X8_16 (by decide +kernel) rfl rfl rfl rfl rfl dX8_init_43 ?_
  refine c_iconst hx ci_0 dX8_init_46 ?_
  refine c_istoren hx (lv' := [(1, .int 0), (0, .ref (kad k 8 0))]) rfl (Nat.le_of_ble_eq_true rfl) rfl dX8_init_47 ?_
  refine c_iloadn hx 0 rfl rfl dX8_init_48 ?_
  refine c_iconst hx ci_5 dX8_init_49 ?_
  refine c_icge hx (tgt := 72) rfl dX8_init_50 (fun q => absurd q (by decide)) (fun _ => ?_)
  refine c_aloadn hx 1 rfl rfl dX8_init_53 ?_
  refine c_get hx 0 FK8_4 wf_X8_16 rfl rfl dX8_init_54 ?_
  refine c_iloadn hx 0 rfl rfl dX8_init_57 ?_
  refine c_new hx (c := 3) (i := 4) (TT := T3) (ty := t3) (fs := [.int 0, .null, .null, .null]) rfl (xgu iw3) tok3 wcl_X8_9 win_X3 wn_X3 (hA 18 _ rfl) dv3 ⟨Nat.le_of_ble_eq_true rfl, Nat.le_of_ble_eq_true rfl⟩ dX8_init_58 ?_
  refine c_C (C' := (19, 109)) rfl ?_
  refine c_dup hx rfl dX8_init_61 ?_
  refine c_callI hx (As := []) (rest := [.ref (kad k 3 4), .int 0, .ref (kad k 35 0)]) (xs0 := [(kad k 8 0, .inr (8, [.int 0, .int 0, .int 0, .ref (kad k 34 0), .ref (kad k 35 0), .int 0, .null, .int 0, .null, .null, .null, .null, .null])), (kad k 35 0, .inl (kA k (ak 35), (5, ra k 35 0 0)))]) (N := nX3 4) (L' := (lX3 4 ((34, 0) :: (lX3 3 (lX3 2 (lX3 1 (lX3 0 L))))))) MK_X3_init wi_X3_init wm_X8_15 rfl ⟨Nat.le_of_ble_eq_true rfl, Nat.le_of_ble_eq_true rfl⟩ (mX3_init (k := kR k [(kad k 8 0, .inr (8, [.int 0, .int 0, .int 0, .ref (kad k 34 0), .ref (kad k 35 0), .int 0, .null, .int 0, .null, .null, .null, .null, .null])), (kad k 35 0, .inl (kA k (ak 35), (5, ra k 35 0 0)))]) (i := 4)) rfl (AL_sub hA 19 3 rfl) (hX3) (Nat.le_of_ble_eq_true rfl) rfl rfl (Nat.le_of_ble_eq_true rfl) dX8_init_62 ?_
  refine c_C (C' := (22, 129)) rfl ?_
  refine c_aast hx (t := 35) (i := 0) (m := 0) (N := 5) (TT := T3) (N2 := 4) (xs' := [(kad k 8 0, .inr (8, [.int 0, .int 0, .int 0, .ref (kad k 34 0), .ref (kad k 35 0), .int 0, .null, .int 0, .null, .null, .null, .null, .null])), (kad k 35 0, .inl (kA k (ak 35), (5, ra k 35 0 1)))]) 1 rfl (by decide) rfl rfl rfl ti_0 (by decide) (by decide) List.mem_cons_self rfl dX8_init_65 ?_
  refine c_iinc hx 0 (v := 1) (lv' := [(1, .int 1), (0, .ref (kad k 8 0))]) rfl (by decide) (Nat.le_of_ble_eq_true rfl) rfl dX8_init_66 ?_
  refine c_goto hx (tgt := 48) rfl dX8_init_69 ?_
  refine c_iloadn hx 0 rfl rfl dX8_init_48 ?_
  refine c_iconst hx ci_5 dX8_init_49 ?_
  refine c_icge hx (tgt := 72) rfl dX8_init_50 (fun q => absurd q (by decide)) (fun _ => ?_)
  refine c_aloadn hx 1 rfl rfl dX8_init_53 ?_
  refine c_get hx 0 FK8_4 wf_X8_16 rfl rfl dX8_init_54 ?_
  refine c_iloadn hx 0 rfl rfl dX8_init_57 ?_
  refine c_new hx (c := 3) (i := 5) (TT := T3) (ty := t3) (fs := [.int 0, .null, .null, .null]) rfl (xgu iw3) tok3 wcl_X8_9 win_X3 wn_X3 (hA 22 _ rfl) dv3 ⟨Nat.le_of_ble_eq_true rfl, Nat.le_of_ble_eq_true rfl⟩ dX8_init_58 ?_
  refine c_C (C' := (23, 133)) rfl ?_
  refine c_dup hx rfl dX8_init_61 ?_
  refine c_callI hx (As := []) (rest := [.ref (kad k 3 5), .int 1, .ref (kad k 35 0)]) (xs0 := [(kad k 8 0, .inr (8, [.int 0, .int 0, .int 0, .ref (kad k 34 0), .ref (kad k 35 0), .int 0, .null, .int 0, .null, .null, .null, .null, .null])), (kad k 35 0, .inl (kA k (ak 35), (5, ra k 35 0 1)))]) (N := nX3 5) (L' := (lX3 5 (lX3 4 ((34, 0) :: (lX3 3 (lX3 2 (lX3 1 (lX3 0 L)))))))) MK_X3_init wi_X3_init wm_X8_15 rfl ⟨Nat.le_of_ble_eq_true rfl, Nat.le_of_ble_eq_true rfl⟩ (mX3_init (k := kR k [(kad k 8 0, .inr (8, [.int 0, .int 0, .int 0, .ref (kad k 34 0), .ref (kad k 35 0), .int 0, .null, .int 0, .null, .null, .null, .null, .null])), (kad k 35 0, .inl (kA k (ak 35), (5, ra k 35 0 1)))]) (i := 5)) rfl (AL_sub hA 23 3 rfl) (hX3) (Nat.le_of_ble_eq_true rfl) rfl rfl (Nat.le_of_ble_eq_true rfl) dX8_init_62 ?_
  refine c_C (C' := (26, 153)) rfl ?_
  refine c_aast hx (t := 35) (i := 0) (m := 1) (N := 5) (TT := T3) (N2 := 4) (xs' := [(kad k 8 0, .inr (8, [.int 0, .int 0, .int 0, .ref (kad k 34 0), .ref (kad k 35 0), .int 0, .null, .int 0, .null, .null, .null, .null, .null])), (kad k 35 0, .inl (kA k (ak 35), (5, ra k 35 0 2)))]) 1 rfl (by decide) rfl rfl rfl ti_1 (by decide) (by decide) List.mem_cons_self rfl dX8_init_65 ?_
  refine c_iinc hx 0 (v := 2) (lv' := [(1, .int 2), (0, .ref (kad k 8 0))]) rfl (by decide) (Nat.le_of_ble_eq_true rfl) rfl dX8_init_66 ?_
  refine c_goto hx (tgt := 48) rfl dX8_init_69 ?_
  refine c_iloadn hx 0 rfl rfl dX8_init_48 ?_
  refine c_iconst hx ci_5 dX8_init_49 ?_
  refine c_icge hx (tgt := 72) rfl dX8_init_50 (fun q => absurd q (by decide)) (fun _ => ?_)
  refine c_aloadn hx 1 rfl rfl dX8_init_53 ?_
  refine c_get hx 0 FK8_4 wf_X8_16 rfl rfl dX8_init_54 ?_
  refine c_iloadn hx 0 rfl rfl dX8_init_57 ?_
  refine c_new hx (c := 3) (i := 6) (TT := T3) (ty := t3) (fs := [.int 0, .null, .null, .null]) rfl (xgu iw3) tok3 wcl_X8_9 win_X3 wn_X3 (hA 26 _ rfl) dv3 ⟨Nat.le_of_ble_eq_true rfl, Nat.le_of_ble_eq_true rfl⟩ dX8_init_58 ?_
  refine c_C (C' := (27, 157)) rfl ?_
  refine c_dup hx rfl dX8_init_61 ?_
  refine c_callI hx (As := []) (rest := [.ref (kad k 3 6), .int 2, .ref (kad k 35 0)]) (xs0 := [(kad k 8 0, .inr (8, [.int 0, .int 0, .int 0, .ref (kad k 34 0), .ref (kad k 35 0), .int 0, .null, .int 0, .null, .null, .null, .null, .null])), (kad k 35 0, .inl (kA k (ak 35), (5, ra k 35 0 2)))]) (N := nX3 6) (L' := (lX3 6 (lX3 5 (lX3 4 ((34, 0) :: (lX3 3 (lX3 2 (lX3 1 (lX3 0 L))))))))) MK_X3_init wi_X3_init wm_X8_15 rfl ⟨Nat.le_of_ble_eq_true rfl, Nat.le_of_ble_eq_true rfl⟩ (mX3_init (k := kR k [(kad k 8 0, .inr (8, [.int 0, .int 0, .int 0, .ref (kad k 34 0), .ref (kad k 35 0), .int 0, .null, .int 0, .null, .null, .null, .null, .null])), (kad k 35 0, .inl (kA k (ak 35), (5, ra k 35 0 2)))]) (i := 6)) rfl (AL_sub hA 27 3 rfl) (hX3) (Nat.le_of_ble_eq_true rfl) rfl rfl (Nat.le_of_ble_eq_true rfl) dX8_init_62 ?_
  refine c_C (C' := (30, 177)) rfl ?_
  refine c_aast hx (t := 35) (i := 0) (m := 2) (N := 5) (TT := T3) (N2 := 4) (xs' := [(kad k 8 0, .inr (8, [.int 0, .int 0, .int 0, .ref (kad k 34 0), .ref (kad k 35 0), .int 0, .null, .int 0, .null, .null, .null, .null, .null])), (kad k 35 0, .inl (kA k (ak 35), (5, ra k 35 0 3)))]) 1 rfl (by decide) rfl rfl rfl ti_2 (by decide) (by decide) List.mem_cons_self rfl dX8_init_65 ?_
  refine c_iinc hx 0 (v := 3) (lv' := [(1, .int 3), (0, .ref (kad k 8 0))]) rfl (by decide) (Nat.le_of_ble_eq_true rfl) rfl dX8_init_66 ?_
  refine c_goto hx (tgt := 48) rfl dX8_init_69 ?_
  refine c_iloadn hx 0 rfl rfl dX8_init_48 ?_
  refine c_iconst hx ci_5 dX8_init_49 ?_
  refine c_icge hx (tgt := 72) rfl dX8_init_50 (fun q => absurd q (by decide)) (fun _ => ?_)
  refine c_aloadn hx 1 rfl rfl dX8_init_53 ?_
  refine c_get hx 0 FK8_4 wf_X8_16 rfl rfl dX8_init_54 ?_
  refine c_iloadn hx 0 rfl rfl dX8_init_57 ?_
  refine c_new hx (c := 3) (i := 7) (TT := T3) (ty := t3) (fs := [.int 0, .null, .null, .null]) rfl (xgu iw3) tok3 wcl_X8_9 win_X3 wn_X3 (hA 30 _ rfl) dv3 ⟨Nat.le_of_ble_eq_true rfl, Nat.le_of_ble_eq_true rfl⟩ dX8_init_58 ?_
  refine c_C (C' := (31, 181)) rfl ?_
  refine c_dup hx rfl dX8_init_61 ?_
  refine c_callI hx (As := []) (rest := [.ref (kad k 3 7), .int 3, .ref (kad k 35 0)]) (xs0 := [(kad k 8 0, .inr (8, [.int 0, .int 0, .int 0, .ref (kad k 34 0), .ref (kad k 35 0), .int 0, .null, .int 0, .null, .null, .null, .null, .null])), (kad k 35 0, .inl (kA k (ak 35), (5, ra k 35 0 3)))]) (N := nX3 7) (L' := (lX3 7 (lX3 6 (lX3 5 (lX3 4 ((34, 0) :: (lX3 3 (lX3 2 (lX3 1 (lX3 0 L)))))))))) MK_X3_init wi_X3_init wm_X8_15 rfl ⟨Nat.le_of_ble_eq_true rfl, Nat.le_of_ble_eq_true rfl⟩ (mX3_init (k := kR k [(kad k 8 0, .inr (8, [.int 0, .int 0, .int 0, .ref (kad k 34 0), .ref (kad k 35 0), .int 0, .null, .int 0, .null, .null, .null, .null, .null])), (kad k 35 0, .inl (kA k (ak 35), (5, ra k 35 0 3)))]) (i := 7)) rfl (AL_sub hA 31 3 rfl) (hX3) (Nat.le_of_ble_eq_true rfl) rfl rfl (Nat.le_of_ble_eq_true rfl) dX8_init_62 ?_
  refine c_C (C' := (34, 201)) rfl ?_
  refine c_aast hx (t := 35) (i := 0) (m := 3) (N := 5) (TT := T3) (N2 := 4) (xs' := [(kad k 8 0, .inr (8, [.int 0, .int 0, .int 0, .ref (kad k 34 0), .ref (kad k 35 0), .int 0, .null, .int 0, .null, .null, .null, .null, .null])), (kad k 35 0, .inl (kA k (ak 35), (5, ra k 35 0 4)))]) 1 rfl (by decide) rfl rfl rfl ti_3 (by decide) (by decide) List.mem_cons_self rfl dX8_init_65 ?_
  refine c_iinc hx 0 (v := 4) (lv' := [(1, .int 4), (0, .ref (kad k 8 0))]) rfl (by decide) (Nat.le_of_ble_eq_true rfl) rfl dX8_init_66 ?_
  refine c_goto hx (tgt := 48) rfl dX8_init_69 ?_
  refine c_iloadn hx 0 rfl rfl dX8_init_48 ?_
  refine c_iconst hx ci_5 dX8_init_49 ?_
  refine c_icge hx (tgt := 72) rfl dX8_init_50 (fun q => absurd q (by decide)) (fun _ => ?_)
  refine c_aloadn hx 1 rfl rfl dX8_init_53 ?_
  refine c_get hx 0 FK8_4 wf_X8_16 rfl rfl dX8_init_54 ?_
  refine c_iloadn hx 0 rfl rfl dX8_init_57 ?_
  refine c_new hx (c := 3) (i := 8) (TT := T3) (ty := t3) (fs := [.int 0, .null, .null, .null]) rfl (xgu iw3) tok3 wcl_X8_9 win_X3 wn_X3 (hA 34 _ rfl) dv3 ⟨Nat.le_of_ble_eq_true rfl, Nat.le_of_ble_eq_true rfl⟩ dX8_init_58 ?_
  refine c_C (C' := (35, 205)) rfl ?_
  refine c_dup hx rfl dX8_init_61 ?_
  refine c_callI hx (As := []) (rest := [.ref (kad k 3 8), .int 4, .ref (kad k 35 0)]) (xs0 := [(kad k 8 0, .inr (8, [.int 0, .int 0, .int 0, .ref (kad k 34 0), .ref (kad k 35 0), .int 0, .null, .int 0, .null, .null, .null, .null, .null])), (kad k 35 0, .inl (kA k (ak 35), (5, ra k 35 0 4)))]) (N := nX3 8) (L' := (lX3 8 (lX3 7 (lX3 6 (lX3 5 (lX3 4 ((34, 0) :: (lX3 3 (lX3 2 (lX3 1 (lX3 0 L))))))))))) MK_X3_init wi_X3_init wm_X8_15 rfl ⟨Nat.le_of_ble_eq_true rfl, Nat.le_of_ble_eq_true rfl⟩ (mX3_init (k := kR k [(kad k 8 0, .inr (8, [.int 0, .int 0, .int 0, .ref (kad k 34 0), .ref (kad k 35 0), .int 0, .null, .int 0, .null, .null, .null, .null, .null])), (kad k 35 0, .inl (kA k (ak 35), (5, ra k 35 0 4)))]) (i := 8)) rfl (AL_sub hA 35 3 rfl) (hX3) (Nat.le_of_ble_eq_true rfl) rfl rfl (Nat.le_of_ble_eq_true rfl) dX8_init_62 ?_
  refine c_C (C' := (38, 225)) rfl ?_
  refine c_aast hx (t := 35) (i := 0) (m := 4) (N := 5) (TT := T3) (N2 := 4) (xs' := [(kad k 8 0, .inr (8, [.int 0, .int 0, .int 0, .ref (kad k 34 0), .ref (kad k 35 0), .int 0, .null, .int 0, .null, .null, .null, .null, .null])), (kad k 35 0, .inl (kA k (ak 35), (5, ra k 35 0 5)))]) 1 rfl (by decide) rfl rfl rfl ti_4 (by decide) (by decide) List.mem_cons_self rfl dX8_init_65 ?_
  refine c_iinc hx 0 (v := 5) (lv' := [(1, .int 5), (0, .ref (kad k 8 0))]) rfl (by decide) (Nat.le_of_ble_eq_true rfl) rfl dX8_init_66 ?_
  refine c_goto hx (tgt := 48) rfl dX8_init_69 ?_
  refine c_iloadn hx 0 rfl rfl dX8_init_48 ?_
  refine c_iconst hx ci_5 dX8_init_49 ?_
  refine c_icge hx (tgt := 72) rfl dX8_init_50 (fun _ => ?_) (fun q => absurd (by decide) q)
  refine c_absA (t := 35) (i := 0) (N := 5) (xs0 := [(kad k 8 0, .inr (8, [.int 0, .int 0, .int 0, .ref (kad k 34 0), .ref (kad k 35 0), .int 0, .null, .int 0, .null, .null, .null, .null, .null]))]) (by decide) (by decide) rfl rfl (fun j h => absurd (show (0 : Nat) = 4 from h) (by decide)) ?_
  refine c_aloadn hx 1 rfl rfl dX8_init_72 ?_
  refine c_bipush hx cb_9 dX8_init_73 ?_
  refine c_newarr hx (t := 36) (i := 0) (N := 9) (atype := .long) wac_long (by decide) (by decide) rfl (by decide +kernel) rfl (by decide) (by decide) (hA 38 _ rfl) ⟨Nat.le_of_ble_eq_true rfl, Nat.le_of_ble_eq_true rfl⟩ dX8_init_75 ?_
  refine c_C (C' := (39, 234)) rfl ?_
  refine c_put hx (ty := (.array .long)) 0 (xs' := [(kad k 8 0, .inr (8, [.int 0, .int 0, .int 0, .ref (kad k 34 0), .ref (kad k 35 0), .int 0, .ref (kad k 36 0), .int 0, .null, .null, .null, .null, .null]))]) FK8_6 wf_X8_19 (by decide +kernel) rfl rfl rfl rfl rfl dX8_init_77 ?_
  refine c_aloadn hx 1 rfl rfl dX8_init_80 ?_
  refine c_sipush hx cs_408 dX8_init_81 ?_
  refine c_newarr hx (t := 37) (i := 0) (N := 408) (atype := .int) wac_int (by decide) (by decide) rfl (by decide +kernel) rfl (by decide) (by decide) (hA 39 _ rfl) ⟨Nat.le_of_ble_eq_true rfl, Nat.le_of_ble_eq_true rfl⟩ dX8_init_84 ?_
  refine c_C (C' := (40, 642)) rfl ?_
  refine c_put hx (ty := (.array .int)) 0 (xs' := [(kad k 8 0, .inr (8, [.int 0, .int 0, .int 0, .ref (kad k 34 0), .ref (kad k 35 0), .int 0, .ref (kad k 36 0), .int 0, .ref (kad k 37 0), .null, .null, .null, .null]))]) FK8_8 wf_X8_25 (by decide +kernel) rfl rfl rfl rfl rfl dX8_init_86 ?_
  refine c_aloadn hx 1 rfl rfl dX8_init_89 ?_
  refine c_gets hx wf_X8_29 dX8_init_90 ?_
  refine c_tlen hx dX8_init_93 ?_
  refine c_newarr hx (t := 38) (i := 0) (N := 4) (atype := .int) wac_int (by decide) (by decide) rfl (by decide +kernel) rfl (by decide) (by decide) (hA 40 _ rfl) ⟨Nat.le_of_ble_eq_true rfl, Nat.le_of_ble_eq_true rfl⟩ dX8_init_94 ?_
  refine c_C (C' := (41, 646)) rfl ?_
  refine c_put hx (ty := (.array .int)) 0 (xs' := [(kad k 8 0, .inr (8, [.int 0, .int 0, .int 0, .ref (kad k 34 0), .ref (kad k 35 0), .int 0, .ref (kad k 36 0), .int 0, .ref (kad k 37 0), .ref (kad k 38 0), .null, .null, .null]))]) FK8_9 wf_X8_32 (by decide +kernel) rfl rfl rfl rfl rfl dX8_init_96 ?_
  refine c_aloadn hx 1 rfl rfl dX8_init_99 ?_
  refine c_bipush hx cb_9 dX8_init_100 ?_
  refine c_newarr hx (t := 39) (i := 0) (N := 9) (atype := .int) wac_int (by decide) (by decide) rfl (by decide +kernel) rfl (by decide) (by decide) (hA 41 _ rfl) ⟨Nat.le_of_ble_eq_true rfl, Nat.le_of_ble_eq_true rfl⟩ dX8_init_102 ?_
  refine c_C (C' := (42, 655)) rfl ?_
  refine c_put hx (ty := (.array .int)) 0 (xs' := [(kad k 8 0, .inr (8, [.int 0, .int 0, .int 0, .ref (kad k 34 0), .ref (kad k 35 0), .int 0, .ref (kad k 36 0), .int 0, .ref (kad k 37 0), .ref (kad k 38 0), .ref (kad k 39 0), .null, .null]))]) FK8_10 wf_X8_35 (by decide +kernel) rfl rfl rfl rfl rfl dX8_init_104 ?_
  refine c_aloadn hx 1 rfl rfl dX8_init_107 ?_
  refine c_bipush hx cb_32 dX8_init_108 ?_
  refine c_newarr hx (t := 40) (i := 0) (N := 32) (atype := .int) wac_int (by decide) (by decide) rfl (by decide +kernel) rfl (by decide) (by decide) (hA 42 _ rfl) ⟨Nat.le_of_ble_eq_true rfl, Nat.le_of_ble_eq_true rfl⟩ dX8_init_110 ?_
  refine c_C (C' := (43, 687)) rfl ?_
  refine c_put hx (ty := (.array .int)) 0 (xs' := [(kad k 8 0, .inr (8, [.int 0, .int 0, .int 0, .ref (kad k 34 0), .ref (kad k 35 0), .int 0, .ref (kad k 36 0), .int 0, .ref (kad k 37 0), .ref (kad k 38 0), .ref (kad k 39 0), .ref (kad k 40 0), .null]))]) FK8_11 wf_X8_38 (by decide +kernel) rfl rfl rfl rfl rfl dX8_init_112 ?_
  refine c_aloadn hx 1 rfl rfl dX8_init_115 ?_
  refine c_new hx (c := 5) (i := 5) (TT := T5) (ty := t5) (fs := [.int 0, .int 0, .int 0, .int 0]) rfl (xgu iw5) tok5 wcl_X8_41 win_X5 wn_X5 (hA 43 _ rfl) dv5 ⟨Nat.le_of_ble_eq_true rfl, Nat.le_of_ble_eq_true rfl⟩ dX8_init_116 ?_
  refine c_C (C' := (44, 691)) rfl ?_
  refine c_dup hx rfl dX8_init_119 ?_
  refine c_callI hx (As := []) (rest := [.ref (kad k 5 5), .ref (kad k 8 0)]) (xs0 := [(kad k 8 0, .inr (8, [.int 0, .int 0, .int 0, .ref (kad k 34 0), .ref (kad k 35 0), .int 0, .ref (kad k 36 0), .int 0, .ref (kad k 37 0), .ref (kad k 38 0), .ref (kad k 39 0), .ref (kad k 40 0), .null]))]) (N := nX5 5) (L' := (lX5 5 ((40, 0) :: ((39, 0) :: ((38, 0) :: ((37, 0) :: ((36, 0) :: ((35, 0) :: (lX3 8 (lX3 7 (lX3 6 (lX3 5 (lX3 4 ((34, 0) :: (lX3 3 (lX3 2 (lX3 1 (lX3 0 L)))))))))))))))))) MK_X5_init wi_X5_init wm_X8_43 rfl ⟨Nat.le_of_ble_eq_true rfl, Nat.le_of_ble_eq_true rfl⟩ (mX5_init (k := kR k [(kad k 8 0, .inr (8, [.int 0, .int 0, .int 0, .ref (kad k 34 0), .ref (kad k 35 0), .int 0, .ref (kad k 36 0), .int 0, .ref (kad k 37 0), .ref (kad k 38 0), .ref (kad k 39 0), .ref (kad k 40 0), .null]))]) (i := 5)) rfl (AL_sub hA 44 0 rfl) (hX5) (Nat.le_of_ble_eq_true rfl) rfl rfl (Nat.le_of_ble_eq_true rfl) dX8_init_120 ?_
  refine c_C (C' := (44, 691)) rfl ?_
  refine c_put hx (ty := (.object "RopeDance$Square")) 0 (xs' := [(kad k 8 0, .inr (8, [.int 0, .int 0, .int 0, .ref (kad k 34 0), .ref (kad k 35 0), .int 0, .ref (kad k 36 0), .int 0, .ref (kad k 37 0), .ref (kad k 38 0), .ref (kad k 39 0), .ref (kad k 40 0), .ref (kad k 5 5)]))]) FK8_12 wf_X8_44 (by decide +kernel) rfl rfl rfl rfl rfl dX8_init_123 ?_
  refine c_absZ (c := 8) (i := 0) (us := []) (fs := [.int 0, .int 0, .int 0, .ref (kad k 34 0), .ref (kad k 35 0), .int 0, .ref (kad k 36 0), .int 0, .ref (kad k 37 0), .ref (kad k 38 0), .ref (kad k 39 0), .ref (kad k 40 0), .ref (kad k 5 5)]) (xs0 := []) (by decide) rfl rfl (fun j h => absurd h (getD_ne (by decide) j)) ?_
  exact c_toW hx (hx.2.2.2.2.2.2.2.2.2.1 rfl) hk (fun hx' => r_sub [1] rfl (sX8_init (k := kL k (lX8_0 L)) hk List.mem_cons_self hx' hf))
set_option maxRecDepth 20000 in
set_option maxHeartbeats 4000000 in
theorem mX8_1_init {l : Launch} {k : Kx} {F : Nat} {L : List (Nat × Nat)} {μ : Mm} {μ' : Mm} (hk : kok (kL k (lX8_1 L))) (hf : fX8_init F 1 (iX8_1 μ) = some μ') : MC l k 3 yX8_init bX8_init 2 [.ref (kad k 8 1)] L (nX8_1) (44, 691) μ [(kad k 8 1, .inr (8, [.int 0, .int 0, .int 0, .null, .null, .int 0, .null, .int 0, .null, .null, .null, .null, .null]))] (lX8_1 L) (μ') := by
  refine MC.of (lv := [(0, .ref (kad k 8 1))]) (plainFor_of_name (by decide)) rfl (Nat.le_of_ble_eq_true rfl) rfl (fun z hl hx hA => ?_)
  subst hl
  have hx : Oc true z k bX8_init 2 "RopeDance$Text" 3 (44, 691) := hx
  refine c_aloadn hx 0 rfl rfl dX8_init_0 ?_
  refine c_objInit hx woi_X8 woin woic (Nat.le_of_ble_eq_true rfl) (Nat.le_of_ble_eq_true rfl) dX8_init_1 ?_
  refine c_aloadn hx 0 rfl rfl dX8_init_4 ?_
  refine c_iconst hx ci_4 dX8_init_5 ?_
  refine c_anew hx (t := 34) (i := 1) (N := 4) wcl_X8_9 hx.2.2.2.2.2.2.2.2.2.2.2.2.1 (by decide) rfl (by decide +kernel) rfl (by decide) (by decide) (hA 0 _ rfl) ⟨Nat.le_of_ble_eq_true rfl, Nat.le_of_ble_eq_true rfl⟩ dX8_init_6 ?_
  refine c_C (C' := (1, 4)) rfl ?_
  refine c_put hx (ty := (.array (.object "RopeDance$Row"))) 0 (xs' := [(kad k 8 1, .inr (8, [.int 0, .int 0, .int 0, .ref (kad k 34 1), .null, .int 0, .null, .int 0, .null, .null, .null, .null, .null])), (kad k 34 1, .inl (kA k (ak 34), (4, ra k 34 1 0)))]) FK8_3 wf_X8_11 (by decide +kernel) rfl rfl rfl rfl rfl dX8_init_9 ?_
  refine c_iconst hx ci_0 dX8_init_12 ?_
  refine c_istoren hx (lv' := [(1, .int 0), (0, .ref (kad k 8 1))]) rfl (Nat.le_of_ble_eq_true rfl) rfl dX8_init_13 ?_
  refine c_iloadn hx 0 rfl rfl dX8_init_14 ?_
  refine c_iconst hx ci_4 dX8_init_15 ?_
  refine c_icge hx (tgt := 38) rfl dX8_init_16 (fun q => absurd q (by decide)) (fun _ => ?_)
  refine c_aloadn hx 1 rfl rfl dX8_init_19 ?_
  refine c_get hx 0 FK8_3 wf_X8_11 rfl rfl dX8_init_20 ?_
  refine c_iloadn hx 0 rfl rfl dX8_init_23 ?_
  refine c_new hx (c := 3) (i := 9) (TT := T3) (ty := t3) (fs := [.int 0, .null, .null, .null]) rfl (xgu iw3) tok3 wcl_X8_9 win_X3 wn_X3 (hA 1 _ rfl) dv3 ⟨Nat.le_of_ble_eq_true rfl, Nat.le_of_ble_eq_true rfl⟩ dX8_init_24 ?_
  refine c_C (C' := (2, 8)) rfl ?_
  refine c_dup hx rfl dX8_init_27 ?_
  refine c_callI hx (As := []) (rest := [.ref (kad k 3 9), .int 0, .ref (kad k 34 1)]) (xs0 := [(kad k 8 1, .inr (8, [.int 0, .int 0, .int 0, .ref (kad k 34 1), .null, .int 0, .null, .int 0, .null, .null, .null, .null, .null])), (kad k 34 1, .inl (kA k (ak 34), (4, ra k 34 1 0)))]) (N := nX3 9) (L' := (lX3 9 L)) MK_X3_init wi_X3_init wm_X8_15 rfl ⟨Nat.le_of_ble_eq_true rfl, Nat.le_of_ble_eq_true rfl⟩ (mX3_init (k := kR k [(kad k 8 1, .inr (8, [.int 0, .int 0, .int 0, .ref (kad k 34 1), .null, .int 0, .null, .int 0, .null, .null, .null, .null, .null])), (kad k 34 1, .inl (kA k (ak 34), (4, ra k 34 1 0)))]) (i := 9)) rfl (AL_sub hA 2 3 rfl) (hX3) (Nat.le_of_ble_eq_true rfl) rfl rfl (Nat.le_of_ble_eq_true rfl) dX8_init_28 ?_
  refine c_C (C' := (5, 28)) rfl ?_
  refine c_aast hx (t := 34) (i := 1) (m := 0) (N := 4) (TT := T3) (N2 := 4) (xs' := [(kad k 8 1, .inr (8, [.int 0, .int 0, .int 0, .ref (kad k 34 1), .null, .int 0, .null, .int 0, .null, .null, .null, .null, .null])), (kad k 34 1, .inl (kA k (ak 34), (4, ra k 34 1 1)))]) 1 rfl (by decide) rfl rfl rfl ti_0 (by decide) (by decide) List.mem_cons_self rfl dX8_init_31 ?_
  refine c_iinc hx 0 (v := 1) (lv' := [(1, .int 1), (0, .ref (kad k 8 1))]) rfl (by decide) (Nat.le_of_ble_eq_true rfl) rfl dX8_init_32 ?_
  refine c_goto hx (tgt := 14) rfl dX8_init_35 ?_
  refine c_iloadn hx 0 rfl rfl dX8_init_14 ?_
  refine c_iconst hx ci_4 dX8_init_15 ?_
  refine c_icge hx (tgt := 38) rfl dX8_init_16 (fun q => absurd q (by decide)) (fun _ => ?_)
  refine c_aloadn hx 1 rfl rfl dX8_init_19 ?_
  refine c_get hx 0 FK8_3 wf_X8_11 rfl rfl dX8_init_20 ?_
  refine c_iloadn hx 0 rfl rfl dX8_init_23 ?_
  refine c_new hx (c := 3) (i := 10) (TT := T3) (ty := t3) (fs := [.int 0, .null, .null, .null]) rfl (xgu iw3) tok3 wcl_X8_9 win_X3 wn_X3 (hA 5 _ rfl) dv3 ⟨Nat.le_of_ble_eq_true rfl, Nat.le_of_ble_eq_true rfl⟩ dX8_init_24 ?_
  refine c_C (C' := (6, 32)) rfl ?_
  refine c_dup hx rfl dX8_init_27 ?_
  refine c_callI hx (As := []) (rest := [.ref (kad k 3 10), .int 1, .ref (kad k 34 1)]) (xs0 := [(kad k 8 1, .inr (8, [.int 0, .int 0, .int 0, .ref (kad k 34 1), .null, .int 0, .null, .int 0, .null, .null, .null, .null, .null])), (kad k 34 1, .inl (kA k (ak 34), (4, ra k 34 1 1)))]) (N := nX3 10) (L' := (lX3 10 (lX3 9 L))) MK_X3_init wi_X3_init wm_X8_15 rfl ⟨Nat.le_of_ble_eq_true rfl, Nat.le_of_ble_eq_true rfl⟩ (mX3_init (k := kR k [(kad k 8 1, .inr (8, [.int 0, .int 0, .int 0, .ref (kad k 34 1), .null, .int 0, .null, .int 0, .null, .null, .null, .null, .null])), (kad k 34 1, .inl (kA k (ak 34), (4, ra k 34 1 1)))]) (i := 10)) rfl (AL_sub hA 6 3 rfl) (hX3) (Nat.le_of_ble_eq_true rfl) rfl rfl (Nat.le_of_ble_eq_true rfl) dX8_init_28 ?_
  refine c_C (C' := (9, 52)) rfl ?_
  refine c_aast hx (t := 34) (i := 1) (m := 1) (N := 4) (TT := T3) (N2 := 4) (xs' := [(kad k 8 1, .inr (8, [.int 0, .int 0, .int 0, .ref (kad k 34 1), .null, .int 0, .null, .int 0, .null, .null, .null, .null, .null])), (kad k 34 1, .inl (kA k (ak 34), (4, ra k 34 1 2)))]) 1 rfl (by decide) rfl rfl rfl ti_1 (by decide) (by decide) List.mem_cons_self rfl dX8_init_31 ?_
  refine c_iinc hx 0 (v := 2) (lv' := [(1, .int 2), (0, .ref (kad k 8 1))]) rfl (by decide) (Nat.le_of_ble_eq_true rfl) rfl dX8_init_32 ?_
  refine c_goto hx (tgt := 14) rfl dX8_init_35 ?_
  refine c_iloadn hx 0 rfl rfl dX8_init_14 ?_
  refine c_iconst hx ci_4 dX8_init_15 ?_
  refine c_icge hx (tgt := 38) rfl dX8_init_16 (fun q => absurd q (by decide)) (fun _ => ?_)
  refine c_aloadn hx 1 rfl rfl dX8_init_19 ?_
  refine c_get hx 0 FK8_3 wf_X8_11 rfl rfl dX8_init_20 ?_
  refine c_iloadn hx 0 rfl rfl dX8_init_23 ?_
  refine c_new hx (c := 3) (i := 11) (TT := T3) (ty := t3) (fs := [.int 0, .null, .null, .null]) rfl (xgu iw3) tok3 wcl_X8_9 win_X3 wn_X3 (hA 9 _ rfl) dv3 ⟨Nat.le_of_ble_eq_true rfl, Nat.le_of_ble_eq_true rfl⟩ dX8_init_24 ?_
  refine c_C (C' := (10, 56)) rfl ?_
  refine c_dup hx rfl dX8_init_27 ?_
  refine c_callI hx (As := []) (rest := [.ref (kad k 3 11), .int 2, .ref (kad k 34 1)]) (xs0 := [(kad k 8 1, .inr (8, [.int 0, .int 0, .int 0, .ref (kad k 34 1), .null, .int 0, .null, .int 0, .null, .null, .null, .null, .null])), (kad k 34 1, .inl (kA k (ak 34), (4, ra k 34 1 2)))]) (N := nX3 11) (L' := (lX3 11 (lX3 10 (lX3 9 L)))) MK_X3_init wi_X3_init wm_X8_15 rfl ⟨Nat.le_of_ble_eq_true rfl, Nat.le_of_ble_eq_true rfl⟩ (mX3_init (k := kR k [(kad k 8 1, .inr (8, [.int 0, .int 0, .int 0, .ref (kad k 34 1), .null, .int 0, .null, .int 0, .null, .null, .null, .null, .null])), (kad k 34 1, .inl (kA k (ak 34), (4, ra k 34 1 2)))]) (i := 11)) rfl (AL_sub hA 10 3 rfl) (hX3) (Nat.le_of_ble_eq_true rfl) rfl rfl (Nat.le_of_ble_eq_true rfl) dX8_init_28 ?_
  refine c_C (C' := (13, 76)) rfl ?_
  refine c_aast hx (t := 34) (i := 1) (m := 2) (N := 4) (TT := T3) (N2 := 4) (xs' := [(kad k 8 1, .inr (8, [.int 0, .int 0, .int 0, .ref (kad k 34 1), .null, .int 0, .null, .int 0, .null, .null, .null, .null, .null])), (kad k 34 1, .inl (kA k (ak 34), (4, ra k 34 1 3)))]) 1 rfl (by decide) rfl rfl rfl ti_2 (by decide) (by decide) List.mem_cons_self rfl dX8_init_31 ?_
  refine c_iinc hx 0 (v := 3) (lv' := [(1, .int 3), (0, .ref (kad k 8 1))]) rfl (by decide) (Nat.le_of_ble_eq_true rfl) rfl dX8_init_32 ?_
  refine c_goto hx (tgt := 14) rfl dX8_init_35 ?_
  refine c_iloadn hx 0 rfl rfl dX8_init_14 ?_
  refine c_iconst hx ci_4 dX8_init_15 ?_
  refine c_icge hx (tgt := 38) rfl dX8_init_16 (fun q => absurd q (by decide)) (fun _ => ?_)
  refine c_aloadn hx 1 rfl rfl dX8_init_19 ?_
  refine c_get hx 0 FK8_3 wf_X8_11 rfl rfl dX8_init_20 ?_
  refine c_iloadn hx 0 rfl rfl dX8_init_23 ?_
  refine c_new hx (c := 3) (i := 12) (TT := T3) (ty := t3) (fs := [.int 0, .null, .null, .null]) rfl (xgu iw3) tok3 wcl_X8_9 win_X3 wn_X3 (hA 13 _ rfl) dv3 ⟨Nat.le_of_ble_eq_true rfl, Nat.le_of_ble_eq_true rfl⟩ dX8_init_24 ?_
  refine c_C (C' := (14, 80)) rfl ?_
  refine c_dup hx rfl dX8_init_27 ?_
  refine c_callI hx (As := []) (rest := [.ref (kad k 3 12), .int 3, .ref (kad k 34 1)]) (xs0 := [(kad k 8 1, .inr (8, [.int 0, .int 0, .int 0, .ref (kad k 34 1), .null, .int 0, .null, .int 0, .null, .null, .null, .null, .null])), (kad k 34 1, .inl (kA k (ak 34), (4, ra k 34 1 3)))]) (N := nX3 12) (L' := (lX3 12 (lX3 11 (lX3 10 (lX3 9 L))))) MK_X3_init wi_X3_init wm_X8_15 rfl ⟨Nat.le_of_ble_eq_true rfl, Nat.le_of_ble_eq_true rfl⟩ (mX3_init (k := kR k [(kad k 8 1, .inr (8, [.int 0, .int 0, .int 0, .ref (kad k 34 1), .null, .int 0, .null, .int 0, .null, .null, .null, .null, .null])), (kad k 34 1, .inl (kA k (ak 34), (4, ra k 34 1 3)))]) (i := 12)) rfl (AL_sub hA 14 3 rfl) (hX3) (Nat.le_of_ble_eq_true rfl) rfl rfl (Nat.le_of_ble_eq_true rfl) dX8_init_28 ?_
  refine c_C (C' := (17, 100)) rfl ?_
  refine c_aast hx (t := 34) (i := 1) (m := 3) (N := 4) (TT := T3) (N2 := 4) (xs' := [(kad k 8 1, .inr (8, [.int 0, .int 0, .int 0, .ref (kad k 34 1), .null, .int 0, .null, .int 0, .null, .null, .null, .null, .null])), (kad k 34 1, .inl (kA k (ak 34), (4, ra k 34 1 4)))]) 1 rfl (by decide) rfl rfl rfl ti_3 (by decide) (by decide) List.mem_cons_self rfl dX8_init_31 ?_
  refine c_iinc hx 0 (v := 4) (lv' := [(1, .int 4), (0, .ref (kad k 8 1))]) rfl (by decide) (Nat.le_of_ble_eq_true rfl) rfl dX8_init_32 ?_
  refine c_goto hx (tgt := 14) rfl dX8_init_35 ?_
  refine c_iloadn hx 0 rfl rfl dX8_init_14 ?_
  refine c_iconst hx ci_4 dX8_init_15 ?_
  refine c_icge hx (tgt := 38) rfl dX8_init_16 (fun _ => ?_) (fun q => absurd (by decide) q)
  refine c_absA (t := 34) (i := 1) (N := 4) (xs0 := [(kad k 8 1, .inr (8, [.int 0, .int 0, .int 0, .ref (kad k 34 1), .null, .int 0, .null, .int 0, .null, .null, .null, .null, .null]))]) (by decide) (by decide) rfl rfl (fun j h => absurd (show (0 : Nat) = 4 from h) (by decide)) ?_
  refine c_aloadn hx 1 rfl rfl dX8_init_38 ?_
  refine c_iconst hx ci_5 dX8_init_39 ?_
  refine c_anew hx (t := 35) (i := 1) (N := 5) wcl_X8_9 hx.2.2.2.2.2.2.2.2.2.2.2.2.1 (by decide) rfl (by decide +kernel) rfl (by decide) (by decide) (hA 17 _ rfl) ⟨Nat.le_of_ble_eq_true rfl, Nat.le_of_ble_eq_true rfl⟩ dX8_init_40 ?_
  refine c_C (C' := (18, 105)) rfl ?_
  refine c_put hx (ty := (.array (.object "RopeDance$Row"))) 0 (xs' := [(kad k 8 1, .inr (8, [.int 0, .int 0, .int 0, .ref (kad k 34 1), .ref (kad k 35 1), .int 0, .null, .int 0, .null, .null, .null, .null, .null])), (kad k 35 1, .inl (kA k (ak 35), (5, ra k 35 1 0)))]) FK8_4 wf_X8_16 (by decide +kernel) rfl rfl rfl rfl rfl dX8_init_43 ?_
  refine c_iconst hx ci_0 dX8_init_46 ?_
  refine c_istoren hx (lv' := [(1, .int 0), (0, .ref (kad k 8 1))]) rfl (Nat.le_of_ble_eq_true rfl) rfl dX8_init_47 ?_
  refine c_iloadn hx 0 rfl rfl dX8_init_48 ?_
  refine c_iconst hx ci_5 dX8_init_49 ?_
  refine c_icge hx (tgt := 72) rfl dX8_init_50 (fun q => absurd q (by decide)) (fun _ => ?_)
  refine c_aloadn hx 1 rfl rfl dX8_init_53 ?_
  refine c_get hx 0 FK8_4 wf_X8_16 rfl rfl dX8_init_54 ?_
  refine c_iloadn hx 0 rfl rfl dX8_init_57 ?_
  refine c_new hx (c := 3) (i := 13) (TT := T3) (ty := t3) (fs := [.int 0, .null, .null, .null]) rfl (xgu iw3) tok3 wcl_X8_9 win_X3 wn_X3 (hA 18 _ rfl) dv3 ⟨Nat.le_of_ble_eq_true rfl, Nat.le_of_ble_eq_true rfl⟩ dX8_init_58 ?_
  refine c_C (C' := (19, 109)) rfl ?_
  refine c_dup hx rfl dX8_init_61 ?_
  refine c_callI hx (As := []) (rest := [.ref (kad k 3 13), .int 0, .ref (kad k 35 1)]) (xs0 := [(kad k 8 1, .inr (8, [.int 0, .int 0, .int 0, .ref (kad k 34 1), .ref (kad k 35 1), .int 0, .null, .int 0, .null, .null, .null, .null, .null])), (kad k 35 1, .inl (kA k (ak 35), (5, ra k 35 1 0)))]) (N := nX3 13) (L' := (lX3 13 ((34, 1) :: (lX3 12 (lX3 11 (lX3 10 (lX3 9 L))))))) MK_X3_init wi_X3_init wm_X8_15 rfl ⟨Nat.le_of_ble_eq_true rfl, Nat.le_of_ble_eq_true rfl⟩ (mX3_init (k := kR k [(kad k 8 1, .inr (8, [.int 0, .int 0, .int 0, .ref (kad k 34 1), .ref (kad k 35 1), .int 0, .null, .int 0, .null, .null, .null, .null, .null])), (kad k 35 1, .inl (kA k (ak 35), (5, ra k 35 1 0)))]) (i := 13)) rfl (AL_sub hA 19 3 rfl) (hX3) (Nat.le_of_ble_eq_true rfl) rfl rfl (Nat.le_of_ble_eq_true rfl) dX8_init_62 ?_
  refine c_C (C' := (22, 129)) rfl ?_
  refine c_aast hx (t := 35) (i := 1) (m := 0) (N := 5) (TT := T3) (N2 := 4) (xs' := [(kad k 8 1, .inr (8, [.int 0, .int 0, .int 0, .ref (kad k 34 1), .ref (kad k 35 1), .int 0, .null, .int 0, .null, .null, .null, .null, .null])), (kad k 35 1, .inl (kA k (ak 35), (5, ra k 35 1 1)))]) 1 rfl (by decide) rfl rfl rfl ti_0 (by decide) (by decide) List.mem_cons_self rfl dX8_init_65 ?_
  refine c_iinc hx 0 (v := 1) (lv' := [(1, .int 1), (0, .ref (kad k 8 1))]) rfl (by decide) (Nat.le_of_ble_eq_true rfl) rfl dX8_init_66 ?_
  refine c_goto hx (tgt := 48) rfl dX8_init_69 ?_
  refine c_iloadn hx 0 rfl rfl dX8_init_48 ?_
  refine c_iconst hx ci_5 dX8_init_49 ?_
  refine c_icge hx (tgt := 72) rfl dX8_init_50 (fun q => absurd q (by decide)) (fun _ => ?_)
  refine c_aloadn hx 1 rfl rfl dX8_init_53 ?_
  refine c_get hx 0 FK8_4 wf_X8_16 rfl rfl dX8_init_54 ?_
  refine c_iloadn hx 0 rfl rfl dX8_init_57 ?_
  refine c_new hx (c := 3) (i := 14) (TT := T3) (ty := t3) (fs := [.int 0, .null, .null, .null]) rfl (xgu iw3) tok3 wcl_X8_9 win_X3 wn_X3 (hA 22 _ rfl) dv3 ⟨Nat.le_of_ble_eq_true rfl, Nat.le_of_ble_eq_true rfl⟩ dX8_init_58 ?_
  refine c_C (C' := (23, 133)) rfl ?_
  refine c_dup hx rfl dX8_init_61 ?_
  refine c_callI hx (As := []) (rest := [.ref (kad k 3 14), .int 1, .ref (kad k 35 1)]) (xs0 := [(kad k 8 1, .inr (8, [.int 0, .int 0, .int 0, .ref (kad k 34 1), .ref (kad k 35 1), .int 0, .null, .int 0, .null, .null, .null, .null, .null])), (kad k 35 1, .inl (kA k (ak 35), (5, ra k 35 1 1)))]) (N := nX3 14) (L' := (lX3 14 (lX3 13 ((34, 1) :: (lX3 12 (lX3 11 (lX3 10 (lX3 9 L)))))))) MK_X3_init wi_X3_init wm_X8_15 rfl ⟨Nat.le_of_ble_eq_true rfl, Nat.le_of_ble_eq_true rfl⟩ (mX3_init (k := kR k [(kad k 8 1, .inr (8, [.int 0, .int 0, .int 0, .ref (kad k 34 1), .ref (kad k 35 1), .int 0, .null, .int 0, .null, .null, .null, .null, .null])), (kad k 35 1, .inl (kA k (ak 35), (5, ra k 35 1 1)))]) (i := 14)) rfl (AL_sub hA 23 3 rfl) (hX3) (Nat.le_of_ble_eq_true rfl) rfl rfl (Nat.le_of_ble_eq_true rfl) dX8_init_62 ?_
  refine c_C (C' := (26, 153)) rfl ?_
  refine c_aast hx (t := 35) (i := 1) (m := 1) (N := 5) (TT := T3) (N2 := 4) (xs' := [(kad k 8 1, .inr (8, [.int 0, .int 0, .int 0, .ref (kad k 34 1), .ref (kad k 35 1), .int 0, .null, .int 0, .null, .null, .null, .null, .null])), (kad k 35 1, .inl (kA k (ak 35), (5, ra k 35 1 2)))]) 1 rfl (by decide) rfl rfl rfl ti_1 (by decide) (by decide) List.mem_cons_self rfl dX8_init_65 ?_
  refine c_iinc hx 0 (v := 2) (lv' := [(1, .int 2), (0, .ref (kad k 8 1))]) rfl (by decide) (Nat.le_of_ble_eq_true rfl) rfl dX8_init_66 ?_
  refine c_goto hx (tgt := 48) rfl dX8_init_69 ?_
  refine c_iloadn hx 0 rfl rfl dX8_init_48 ?_
  refine c_iconst hx ci_5 dX8_init_49 ?_
  refine c_icge hx (tgt := 72) rfl dX8_init_50 (fun q => absurd q (by decide)) (fun _ => ?_)
  refine c_aloadn hx 1 rfl rfl dX8_init_53 ?_
  refine c_get hx 0 FK8_4 wf_X8_16 rfl rfl dX8_init_54 ?_
  refine c_iloadn hx 0 rfl rfl dX8_init_57 ?_
  refine c_new hx (c := 3) (i := 15) (TT := T3) (ty := t3) (fs := [.int 0, .null, .null, .null]) rfl (xgu iw3) tok3 wcl_X8_9 win_X3 wn_X3 (hA 26 _ rfl) dv3 ⟨Nat.le_of_ble_eq_true rfl, Nat.le_of_ble_eq_true rfl⟩ dX8_init_58 ?_
  refine c_C (C' := (27, 157)) rfl ?_
  refine c_dup hx rfl dX8_init_61 ?_
  refine c_callI hx (As := []) (rest := [.ref (kad k 3 15), .int 2, .ref (kad k 35 1)]) (xs0 := [(kad k 8 1, .inr (8, [.int 0, .int 0, .int 0, .ref (kad k 34 1), .ref (kad k 35 1), .int 0, .null, .int 0, .null, .null, .null, .null, .null])), (kad k 35 1, .inl (kA k (ak 35), (5, ra k 35 1 2)))]) (N := nX3 15) (L' := (lX3 15 (lX3 14 (lX3 13 ((34, 1) :: (lX3 12 (lX3 11 (lX3 10 (lX3 9 L))))))))) MK_X3_init wi_X3_init wm_X8_15 rfl ⟨Nat.le_of_ble_eq_true rfl, Nat.le_of_ble_eq_true rfl⟩ (mX3_init (k := kR k [(kad k 8 1, .inr (8, [.int 0, .int 0, .int 0, .ref (kad k 34 1), .ref (kad k 35 1), .int 0, .null, .int 0, .null, .null, .null, .null, .null])), (kad k 35 1, .inl (kA k (ak 35), (5, ra k 35 1 2)))]) (i := 15)) rfl (AL_sub hA 27 3 rfl) (hX3) (Nat.le_of_ble_eq_true rfl) rfl rfl (Nat.le_of_ble_eq_true rfl) dX8_init_62 ?_
  refine c_C (C' := (30, 177)) rfl ?_
  refine c_aast hx (t := 35) (i := 1) (m := 2) (N := 5) (TT := T3) (N2 := 4) (xs' := [(kad k 8 1, .inr (8, [.int 0, .int 0, .int 0, .ref (kad k 34 1), .ref (kad k 35 1), .int 0, .null, .int 0, .null, .null, .null, .null, .null])), (kad k 35 1, .inl (kA k (ak 35), (5, ra k 35 1 3)))]) 1 rfl (by decide) rfl rfl rfl ti_2 (by decide) (by decide) List.mem_cons_self rfl dX8_init_65 ?_
  refine c_iinc hx 0 (v := 3) (lv' := [(1, .int 3), (0, .ref (kad k 8 1))]) rfl (by decide) (Nat.le_of_ble_eq_true rfl) rfl dX8_init_66 ?_
  refine c_goto hx (tgt := 48) rfl dX8_init_69 ?_
  refine c_iloadn hx 0 rfl rfl dX8_init_48 ?_
  refine c_iconst hx ci_5 dX8_init_49 ?_
  refine c_icge hx (tgt := 72) rfl dX8_init_50 (fun q => absurd q (by decide)) (fun _ => ?_)
  refine c_aloadn hx 1 rfl rfl dX8_init_53 ?_
  refine c_get hx 0 FK8_4 wf_X8_16 rfl rfl dX8_init_54 ?_
  refine c_iloadn hx 0 rfl rfl dX8_init_57 ?_
  refine c_new hx (c := 3) (i := 16) (TT := T3) (ty := t3) (fs := [.int 0, .null, .null, .null]) rfl (xgu iw3) tok3 wcl_X8_9 win_X3 wn_X3 (hA 30 _ rfl) dv3 ⟨Nat.le_of_ble_eq_true rfl, Nat.le_of_ble_eq_true rfl⟩ dX8_init_58 ?_
  refine c_C (C' := (31, 181)) rfl ?_
  refine c_dup hx rfl dX8_init_61 ?_
  refine c_callI hx (As := []) (rest := [.ref (kad k 3 16), .int 3, .ref (kad k 35 1)]) (xs0 := [(kad k 8 1, .inr (8, [.int 0, .int 0, .int 0, .ref (kad k 34 1), .ref (kad k 35 1), .int 0, .null, .int 0, .null, .null, .null, .null, .null])), (kad k 35 1, .inl (kA k (ak 35), (5, ra k 35 1 3)))]) (N := nX3 16) (L' := (lX3 16 (lX3 15 (lX3 14 (lX3 13 ((34, 1) :: (lX3 12 (lX3 11 (lX3 10 (lX3 9 L)))))))))) MK_X3_init wi_X3_init wm_X8_15 rfl ⟨Nat.le_of_ble_eq_true rfl, Nat.le_of_ble_eq_true rfl⟩ (mX3_init (k := kR k [(kad k 8 1, .inr (8, [.int 0, .int 0, .int 0, .ref (kad k 34 1), .ref (kad k 35 1), .int 0, .null, .int 0, .null, .null, .null, .null, .null])), (kad k 35 1, .inl (kA k (ak 35), (5, ra k 35 1 3)))]) (i := 16)) rfl (AL_sub hA 31 3 rfl) (hX3) (Nat.le_of_ble_eq_true rfl) rfl rfl (Nat.le_of_ble_eq_true rfl) dX8_init_62 ?_
  refine c_C (C' := (34, 201)) rfl ?_
  refine c_aast hx (t := 35) (i := 1) (m := 3) (N := 5) (TT := T3) (N2 := 4) (xs' := [(kad k 8 1, .inr (8, [.int 0, .int 0, .int 0, .ref (kad k 34 1), .ref (kad k 35 1), .int 0, .null, .int 0, .null, .null, .null, .null, .null])), (kad k 35 1, .inl (kA k (ak 35), (5, ra k 35 1 4)))]) 1 rfl (by decide) rfl rfl rfl ti_3 (by decide) (by decide) List.mem_cons_self rfl dX8_init_65 ?_
  refine c_iinc hx 0 (v := 4) (lv' := [(1, .int 4), (0, .ref (kad k 8 1))]) rfl (by decide) (Nat.le_of_ble_eq_true rfl) rfl dX8_init_66 ?_
  refine c_goto hx (tgt := 48) rfl dX8_init_69 ?_
  refine c_iloadn hx 0 rfl rfl dX8_init_48 ?_
  refine c_iconst hx ci_5 dX8_init_49 ?_
  refine c_icge hx (tgt := 72) rfl dX8_init_50 (fun q => absurd q (by decide)) (fun _ => ?_)
  refine c_aloadn hx 1 rfl rfl dX8_init_53 ?_
  refine c_get hx 0 FK8_4 wf_X8_16 rfl rfl dX8_init_54 ?_
  refine c_iloadn hx 0 rfl rfl dX8_init_57 ?_
  refine c_new hx (c := 3) (i := 17) (TT := T3) (ty := t3) (fs := [.int 0, .null, .null, .null]) rfl (xgu iw3) tok3 wcl_X8_9 win_X3 wn_X3 (hA 34 _ rfl) dv3 ⟨Nat.le_of_ble_eq_true rfl, Nat.le_of_ble_eq_true rfl⟩ dX8_init_58 ?_
  refine c_C (C' := (35, 205)) rfl ?_
  refine c_dup hx rfl dX8_init_61 ?_
  refine c_callI hx (As := []) (rest := [.ref (kad k 3 17), .int 4, .ref (kad k 35 1)]) (xs0 := [(kad k 8 1, .inr (8, [.int 0, .int 0, .int 0, .ref (kad k 34 1), .ref (kad k 35 1), .int 0, .null, .int 0, .null, .null, .null, .null, .null])), (kad k 35 1, .inl (kA k (ak 35), (5, ra k 35 1 4)))]) (N := nX3 17) (L' := (lX3 17 (lX3 16 (lX3 15 (lX3 14 (lX3 13 ((34, 1) :: (lX3 12 (lX3 11 (lX3 10 (lX3 9 L))))))))))) MK_X3_init wi_X3_init wm_X8_15 rfl ⟨Nat.le_of_ble_eq_true rfl, Nat.le_of_ble_eq_true rfl⟩ (mX3_init (k := kR k [(kad k 8 1, .inr (8, [.int 0, .int 0, .int 0, .ref (kad k 34 1), .ref (kad k 35 1), .int 0, .null, .int 0, .null, .null, .null, .null, .null])), (kad k 35 1, .inl (kA k (ak 35), (5, ra k 35 1 4)))]) (i := 17)) rfl (AL_sub hA 35 3 rfl) (hX3) (Nat.le_of_ble_eq_true rfl) rfl rfl (Nat.le_of_ble_eq_true rfl) dX8_init_62 ?_
  refine c_C (C' := (38, 225)) rfl ?_
  refine c_aast hx (t := 35) (i := 1) (m := 4) (N := 5) (TT := T3) (N2 := 4) (xs' := [(kad k 8 1, .inr (8, [.int 0, .int 0, .int 0, .ref (kad k 34 1), .ref (kad k 35 1), .int 0, .null, .int 0, .null, .null, .null, .null, .null])), (kad k 35 1, .inl (kA k (ak 35), (5, ra k 35 1 5)))]) 1 rfl (by decide) rfl rfl rfl ti_4 (by decide) (by decide) List.mem_cons_self rfl dX8_init_65 ?_
  refine c_iinc hx 0 (v := 5) (lv' := [(1, .int 5), (0, .ref (kad k 8 1))]) rfl (by decide) (Nat.le_of_ble_eq_true rfl) rfl dX8_init_66 ?_
  refine c_goto hx (tgt := 48) rfl dX8_init_69 ?_
  refine c_iloadn hx 0 rfl rfl dX8_init_48 ?_
  refine c_iconst hx ci_5 dX8_init_49 ?_
  refine c_icge hx (tgt := 72) rfl dX8_init_50 (fun _ => ?_) (fun q => absurd (by decide) q)
  refine c_absA (t := 35) (i := 1) (N := 5) (xs0 := [(kad k 8 1, .inr (8, [.int 0, .int 0, .int 0, .ref (kad k 34 1), .ref (kad k 35 1), .int 0, .null, .int 0, .null, .null, .null, .null, .null]))]) (by decide) (by decide) rfl rfl (fun j h => absurd (show (0 : Nat) = 4 from h) (by decide)) ?_
  refine c_aloadn hx 1 rfl rfl dX8_init_72 ?_
  refine c_bipush hx cb_9 dX8_init_73 ?_
  refine c_newarr hx (t := 36) (i := 1) (N := 9) (atype := .long) wac_long (by decide) (by decide) rfl (by decide +kernel) rfl (by decide) (by decide) (hA 38 _ rfl) ⟨Nat.le_of_ble_eq_true rfl, Nat.le_of_ble_eq_true rfl⟩ dX8_init_75 ?_
  refine c_C (C' := (39, 234)) rfl ?_
  refine c_put hx (ty := (.array .long)) 0 (xs' := [(kad k 8 1, .inr (8, [.int 0, .int 0, .int 0, .ref (kad k 34 1), .ref (kad k 35 1), .int 0, .ref (kad k 36 1), .int 0, .null, .null, .null, .null, .null]))]) FK8_6 wf_X8_19 (by decide +kernel) rfl rfl rfl rfl rfl dX8_init_77 ?_
  refine c_aloadn hx 1 rfl rfl dX8_init_80 ?_
  refine c_sipush hx cs_408 dX8_init_81 ?_
  refine c_newarr hx (t := 37) (i := 1) (N := 408) (atype := .int) wac_int (by decide) (by decide) rfl (by decide +kernel) rfl (by decide) (by decide) (hA 39 _ rfl) ⟨Nat.le_of_ble_eq_true rfl, Nat.le_of_ble_eq_true rfl⟩ dX8_init_84 ?_
  refine c_C (C' := (40, 642)) rfl ?_
  refine c_put hx (ty := (.array .int)) 0 (xs' := [(kad k 8 1, .inr (8, [.int 0, .int 0, .int 0, .ref (kad k 34 1), .ref (kad k 35 1), .int 0, .ref (kad k 36 1), .int 0, .ref (kad k 37 1), .null, .null, .null, .null]))]) FK8_8 wf_X8_25 (by decide +kernel) rfl rfl rfl rfl rfl dX8_init_86 ?_
  refine c_aloadn hx 1 rfl rfl dX8_init_89 ?_
  refine c_gets hx wf_X8_29 dX8_init_90 ?_
  refine c_tlen hx dX8_init_93 ?_
  refine c_newarr hx (t := 38) (i := 1) (N := 4) (atype := .int) wac_int (by decide) (by decide) rfl (by decide +kernel) rfl (by decide) (by decide) (hA 40 _ rfl) ⟨Nat.le_of_ble_eq_true rfl, Nat.le_of_ble_eq_true rfl⟩ dX8_init_94 ?_
  refine c_C (C' := (41, 646)) rfl ?_
  refine c_put hx (ty := (.array .int)) 0 (xs' := [(kad k 8 1, .inr (8, [.int 0, .int 0, .int 0, .ref (kad k 34 1), .ref (kad k 35 1), .int 0, .ref (kad k 36 1), .int 0, .ref (kad k 37 1), .ref (kad k 38 1), .null, .null, .null]))]) FK8_9 wf_X8_32 (by decide +kernel) rfl rfl rfl rfl rfl dX8_init_96 ?_
  refine c_aloadn hx 1 rfl rfl dX8_init_99 ?_
  refine c_bipush hx cb_9 dX8_init_100 ?_
  refine c_newarr hx (t := 39) (i := 1) (N := 9) (atype := .int) wac_int (by decide) (by decide) rfl (by decide +kernel) rfl (by decide) (by decide) (hA 41 _ rfl) ⟨Nat.le_of_ble_eq_true rfl, Nat.le_of_ble_eq_true rfl⟩ dX8_init_102 ?_
  refine c_C (C' := (42, 655)) rfl ?_
  refine c_put hx (ty := (.array .int)) 0 (xs' := [(kad k 8 1, .inr (8, [.int 0, .int 0, .int 0, .ref (kad k 34 1), .ref (kad k 35 1), .int 0, .ref (kad k 36 1), .int 0, .ref (kad k 37 1), .ref (kad k 38 1), .ref (kad k 39 1), .null, .null]))]) FK8_10 wf_X8_35 (by decide +kernel) rfl rfl rfl rfl rfl dX8_init_104 ?_
  refine c_aloadn hx 1 rfl rfl dX8_init_107 ?_
  refine c_bipush hx cb_32 dX8_init_108 ?_
  refine c_newarr hx (t := 40) (i := 1) (N := 32) (atype := .int) wac_int (by decide) (by decide) rfl (by decide +kernel) rfl (by decide) (by decide) (hA 42 _ rfl) ⟨Nat.le_of_ble_eq_true rfl, Nat.le_of_ble_eq_true rfl⟩ dX8_init_110 ?_
  refine c_C (C' := (43, 687)) rfl ?_
  refine c_put hx (ty := (.array .int)) 0 (xs' := [(kad k 8 1, .inr (8, [.int 0, .int 0, .int 0, .ref (kad k 34 1), .ref (kad k 35 1), .int 0, .ref (kad k 36 1), .int 0, .ref (kad k 37 1), .ref (kad k 38 1), .ref (kad k 39 1), .ref (kad k 40 1), .null]))]) FK8_11 wf_X8_38 (by decide +kernel) rfl rfl rfl rfl rfl dX8_init_112 ?_
  refine c_aloadn hx 1 rfl rfl dX8_init_115 ?_
  refine c_new hx (c := 5) (i := 6) (TT := T5) (ty := t5) (fs := [.int 0, .int 0, .int 0, .int 0]) rfl (xgu iw5) tok5 wcl_X8_41 win_X5 wn_X5 (hA 43 _ rfl) dv5 ⟨Nat.le_of_ble_eq_true rfl, Nat.le_of_ble_eq_true rfl⟩ dX8_init_116 ?_
  refine c_C (C' := (44, 691)) rfl ?_
  refine c_dup hx rfl dX8_init_119 ?_
  refine c_callI hx (As := []) (rest := [.ref (kad k 5 6), .ref (kad k 8 1)]) (xs0 := [(kad k 8 1, .inr (8, [.int 0, .int 0, .int 0, .ref (kad k 34 1), .ref (kad k 35 1), .int 0, .ref (kad k 36 1), .int 0, .ref (kad k 37 1), .ref (kad k 38 1), .ref (kad k 39 1), .ref (kad k 40 1), .null]))]) (N := nX5 6) (L' := (lX5 6 ((40, 1) :: ((39, 1) :: ((38, 1) :: ((37, 1) :: ((36, 1) :: ((35, 1) :: (lX3 17 (lX3 16 (lX3 15 (lX3 14 (lX3 13 ((34, 1) :: (lX3 12 (lX3 11 (lX3 10 (lX3 9 L)))))))))))))))))) MK_X5_init wi_X5_init wm_X8_43 rfl ⟨Nat.le_of_ble_eq_true rfl, Nat.le_of_ble_eq_true rfl⟩ (mX5_init (k := kR k [(kad k 8 1, .inr (8, [.int 0, .int 0, .int 0, .ref (kad k 34 1), .ref (kad k 35 1), .int 0, .ref (kad k 36 1), .int 0, .ref (kad k 37 1), .ref (kad k 38 1), .ref (kad k 39 1), .ref (kad k 40 1), .null]))]) (i := 6)) rfl (AL_sub hA 44 0 rfl) (hX5) (Nat.le_of_ble_eq_true rfl) rfl rfl (Nat.le_of_ble_eq_true rfl) dX8_init_120 ?_
  refine c_C (C' := (44, 691)) rfl ?_
  refine c_put hx (ty := (.object "RopeDance$Square")) 0 (xs' := [(kad k 8 1, .inr (8, [.int 0, .int 0, .int 0, .ref (kad k 34 1), .ref (kad k 35 1), .int 0, .ref (kad k 36 1), .int 0, .ref (kad k 37 1), .ref (kad k 38 1), .ref (kad k 39 1), .ref (kad k 40 1), .ref (kad k 5 6)]))]) FK8_12 wf_X8_44 (by decide +kernel) rfl rfl rfl rfl rfl dX8_init_123 ?_
  refine c_absZ (c := 8) (i := 1) (us := []) (fs := [.int 0, .int 0, .int 0, .ref (kad k 34 1), .ref (kad k 35 1), .int 0, .ref (kad k 36 1), .int 0, .ref (kad k 37 1), .ref (kad k 38 1), .ref (kad k 39 1), .ref (kad k 40 1), .ref (kad k 5 6)]) (xs0 := []) (by decide) rfl rfl (fun j h => absurd h (getD_ne (by decide) j)) ?_
  exact c_toW hx (hx.2.2.2.2.2.2.2.2.2.1 rfl) hk (fun hx' => r_sub [1] rfl (sX8_init (k := kL k (lX8_1 L)) hk List.mem_cons_self hx' hf))
set_option maxRecDepth 20000 in
set_option maxHeartbeats 4000000 in
theorem mX10_init {l : Launch} {k : Kx} {F : Nat} {L : List (Nat × Nat)} {μ : Mm} {μ' : Mm} (hk : kok (kL k (lX10 L))) (hf : fX10_init F (iX10 μ) = some μ') : MC l k 2 yX10_init bX10_init 3 [.ref (kad k 10 0)] L (nX10) (2, 9900) μ [(kad k 10 0, .inr (10, [.null, .null]))] (lX10 L) (μ') := by
  refine MC.of (lv := [(0, .ref (kad k 10 0))]) (plainFor_of_name (by decide)) rfl (Nat.le_of_ble_eq_true rfl) rfl (fun z hl hx hA => ?_)
  subst hl
  have hx : Oc true z k bX10_init 3 "RopeDance$Unwinding" 2 (2, 9900) := hx
  refine c_aloadn hx 0 rfl rfl dX10_init_0 ?_
  refine c_objInit hx woi_X10 woin woic (Nat.le_of_ble_eq_true rfl) (Nat.le_of_ble_eq_true rfl) dX10_init_1 ?_
  refine c_aloadn hx 0 rfl rfl dX10_init_4 ?_
  refine c_sipush hx cs_4950 dX10_init_5 ?_
  refine c_newarr hx (t := 46) (i := 0) (N := 4950) (atype := .int) wac_int (by decide) (by decide) rfl (by decide +kernel) rfl (by decide) (by decide) (hA 0 _ rfl) ⟨Nat.le_of_ble_eq_true rfl, Nat.le_of_ble_eq_true rfl⟩ dX10_init_8 ?_
  refine c_C (C' := (1, 4950)) rfl ?_
  refine c_put hx (ty := (.array .int)) 0 (xs' := [(kad k 10 0, .inr (10, [.ref (kad k 46 0), .null]))]) FK10_0 wf_X10_11 (by decide +kernel) rfl rfl rfl rfl rfl dX10_init_10 ?_
  refine c_aloadn hx 0 rfl rfl dX10_init_13 ?_
  refine c_sipush hx cs_4950 dX10_init_14 ?_
  refine c_newarr hx (t := 47) (i := 0) (N := 4950) (atype := .int) wac_int (by decide) (by decide) rfl (by decide +kernel) rfl (by decide) (by decide) (hA 1 _ rfl) ⟨Nat.le_of_ble_eq_true rfl, Nat.le_of_ble_eq_true rfl⟩ dX10_init_17 ?_
  refine c_C (C' := (2, 9900)) rfl ?_
  refine c_put hx (ty := (.array .int)) 0 (xs' := [(kad k 10 0, .inr (10, [.ref (kad k 46 0), .ref (kad k 47 0)]))]) FK10_1 wf_X10_17 (by decide +kernel) rfl rfl rfl rfl rfl dX10_init_19 ?_
  refine c_absZ (c := 10) (i := 0) (us := []) (fs := [.ref (kad k 46 0), .ref (kad k 47 0)]) (xs0 := []) (by decide) rfl rfl (fun j h => absurd h (getD_ne (by decide) j)) ?_
  exact c_toW hx (hx.2.2.2.2.2.2.2.2.2.1 rfl) hk (fun hx' => r_sub [0] rfl (sX10_init (k := kL k (lX10 L)) hk List.mem_cons_self hx' hf))
set_option maxRecDepth 20000 in
set_option maxHeartbeats 4000000 in
theorem mX12_init {l : Launch} {k : Kx} {F : Nat} {L : List (Nat × Nat)} {μ : Mm} {μ' : Mm} (hk : kok (kL k (lX12 L))) (hf : fX12_init F (iX12 μ) = some μ') : MC l k 5 yX12_init bX12_init 1 [.ref (kad k 12 0)] L (nX12) (44, 130149) μ [(kad k 12 0, .inr (12, [.int 0, .null, .int 0, .null, .int 0, .null, .null, .null, .null, .null, .int 0, .int 0, .int 0, .int 0, .int 0, .int 0, .int 0, .int 0, .int 0, .int 0, .int 0, .null, .null, .null, .null, .null, .null, .null, .null, .null, .null, .int 0, .null, .null, .null, .null, .null, .int 0, .null, .null, .null, .int 0, .null, .null, .int 0, .null, .null, .int 0, .null, .null, .int 0, .null, .null, .null, .null, .null, .int 0, .int 0, .int 0, .int 0, .int 0, .int 0, .int 0, .int 0, .int 0, .int 0, .int 0, .null, .null, .null, .null, .null, .null, .null, .null]))] (lX12 L) (μ') := by
  refine MC.of (lv := [(0, .ref (kad k 12 0))]) (plainFor_of_name (by decide)) rfl (Nat.le_of_ble_eq_true rfl) rfl (fun z hl hx hA => ?_)
  subst hl
  have hx : Oc true z k bX12_init 1 "RopeDanceModel" 5 (44, 130149) := hx
  refine c_aloadn hx 0 rfl rfl dX12_init_0 ?_
  refine c_objInit hx woi_X12 woin woic (Nat.le_of_ble_eq_true rfl) (Nat.le_of_ble_eq_true rfl) dX12_init_1 ?_
  refine c_aloadn hx 0 rfl rfl dX12_init_4 ?_
  refine c_sipush hx cs_2000 dX12_init_5 ?_
  refine c_newarr hx (t := 48) (i := 0) (N := 2000) (atype := .byte) wac_byte (by decide) (by decide) rfl (by decide +kernel) rfl (by decide) (by decide) (hA 0 _ rfl) ⟨Nat.le_of_ble_eq_true rfl, Nat.le_of_ble_eq_true rfl⟩ dX12_init_8 ?_
  refine c_C (C' := (1, 2000)) rfl ?_
  refine c_put hx (ty := (.array .byte)) 0 (xs' := [(kad k 12 0, .inr (12, [.int 0, .ref (kad k 48 0), .int 0, .null, .int 0, .null, .null, .null, .null, .null, .int 0, .int 0, .int 0, .int 0, .int 0, .int 0, .int 0, .int 0, .int 0, .int 0, .int 0, .null, .null, .null, .null, .null, .null, .null, .null, .null, .null, .int 0, .null, .null, .null, .null, .null, .int 0, .null, .null, .null, .int 0, .null, .null, .int 0, .null, .null, .int 0, .null, .null, .int 0, .null, .null, .null, .null, .null, .int 0, .int 0, .int 0, .int 0, .int 0, .int 0, .int 0, .int 0, .int 0, .int 0, .int 0, .null, .null, .null, .null, .null, .null, .null, .null]))]) FK12_1 wf_X12_13 (by decide +kernel) rfl rfl rfl rfl rfl dX12_init_10 ?_
  refine c_aloadn hx 0 rfl rfl dX12_init_13 ?_
  refine c_sipush hx cs_2000 dX12_init_14 ?_
  refine c_newarr hx (t := 49) (i := 0) (N := 2000) (atype := .byte) wac_byte (by decide) (by decide) rfl (by decide +kernel) rfl (by decide) (by decide) (hA 1 _ rfl) ⟨Nat.le_of_ble_eq_true rfl, Nat.le_of_ble_eq_true rfl⟩ dX12_init_17 ?_
  refine c_C (C' := (2, 4000)) rfl ?_
  refine c_put hx (ty := (.array .byte)) 0 (xs' := [(kad k 12 0, .inr (12, [.int 0, .ref (kad k 48 0), .int 0, .ref (kad k 49 0), .int 0, .null, .null, .null, .null, .null, .int 0, .int 0, .int 0, .int 0, .int 0, .int 0, .int 0, .int 0, .int 0, .int 0, .int 0, .null, .null, .null, .null, .null, .null, .null, .null, .null, .null, .int 0, .null, .null, .null, .null, .null, .int 0, .null, .null, .null, .int 0, .null, .null, .int 0, .null, .null, .int 0, .null, .null, .int 0, .null, .null, .null, .null, .null, .int 0, .int 0, .int 0, .int 0, .int 0, .int 0, .int 0, .int 0, .int 0, .int 0, .int 0, .null, .null, .null, .null, .null, .null, .null, .null]))]) FK12_3 wf_X12_17 (by decide +kernel) rfl rfl rfl rfl rfl dX12_init_19 ?_
  refine c_aloadn hx 0 rfl rfl dX12_init_22 ?_
  refine c_sipush hx cs_403 dX12_init_23 ?_
  refine c_newarr hx (t := 50) (i := 0) (N := 403) (atype := .int) wac_int (by decide) (by decide) rfl (by decide +kernel) rfl (by decide) (by decide) (hA 2 _ rfl) ⟨Nat.le_of_ble_eq_true rfl, Nat.le_of_ble_eq_true rfl⟩ dX12_init_26 ?_
  refine c_C (C' := (3, 4403)) rfl ?_
  refine c_put hx (ty := (.array .int)) 0 (xs' := [(kad k 12 0, .inr (12, [.int 0, .ref (kad k 48 0), .int 0, .ref (kad k 49 0), .int 0, .ref (kad k 50 0), .null, .null, .null, .null, .int 0, .int 0, .int 0, .int 0, .int 0, .int 0, .int 0, .int 0, .int 0, .int 0, .int 0, .null, .null, .null, .null, .null, .null, .null, .null, .null, .null, .int 0, .null, .null, .null, .null, .null, .int 0, .null, .null, .null, .int 0, .null, .null, .int 0, .null, .null, .int 0, .null, .null, .int 0, .null, .null, .null, .null, .null, .int 0, .int 0, .int 0, .int 0, .int 0, .int 0, .int 0, .int 0, .int 0, .int 0, .int 0, .null, .null, .null, .null, .null, .null, .null, .null]))]) FK12_5 wf_X12_20 (by decide +kernel) rfl rfl rfl rfl rfl dX12_init_28 ?_
  refine c_aloadn hx 0 rfl rfl dX12_init_31 ?_
  refine c_sipush hx cs_403 dX12_init_32 ?_
  refine c_newarr hx (t := 51) (i := 0) (N := 403) (atype := .int) wac_int (by decide) (by decide) rfl (by decide +kernel) rfl (by decide) (by decide) (hA 3 _ rfl) ⟨Nat.le_of_ble_eq_true rfl, Nat.le_of_ble_eq_true rfl⟩ dX12_init_35 ?_
  refine c_C (C' := (4, 4806)) rfl ?_
  refine c_put hx (ty := (.array .int)) 0 (xs' := [(kad k 12 0, .inr (12, [.int 0, .ref (kad k 48 0), .int 0, .ref (kad k 49 0), .int 0, .ref (kad k 50 0), .ref (kad k 51 0), .null, .null, .null, .int 0, .int 0, .int 0, .int 0, .int 0, .int 0, .int 0, .int 0, .int 0, .int 0, .int 0, .null, .null, .null, .null, .null, .null, .null, .null, .null, .null, .int 0, .null, .null, .null, .null, .null, .int 0, .null, .null, .null, .int 0, .null, .null, .int 0, .null, .null, .int 0, .null, .null, .int 0, .null, .null, .null, .null, .null, .int 0, .int 0, .int 0, .int 0, .int 0, .int 0, .int 0, .int 0, .int 0, .int 0, .int 0, .null, .null, .null, .null, .null, .null, .null, .null]))]) FK12_6 wf_X12_24 (by decide +kernel) rfl rfl rfl rfl rfl dX12_init_37 ?_
  refine c_aloadn hx 0 rfl rfl dX12_init_40 ?_
  refine c_sipush hx cs_403 dX12_init_41 ?_
  refine c_newarr hx (t := 52) (i := 0) (N := 403) (atype := .int) wac_int (by decide) (by decide) rfl (by decide +kernel) rfl (by decide) (by decide) (hA 4 _ rfl) ⟨Nat.le_of_ble_eq_true rfl, Nat.le_of_ble_eq_true rfl⟩ dX12_init_44 ?_
  refine c_C (C' := (5, 5209)) rfl ?_
  refine c_put hx (ty := (.array .int)) 0 (xs' := [(kad k 12 0, .inr (12, [.int 0, .ref (kad k 48 0), .int 0, .ref (kad k 49 0), .int 0, .ref (kad k 50 0), .ref (kad k 51 0), .ref (kad k 52 0), .null, .null, .int 0, .int 0, .int 0, .int 0, .int 0, .int 0, .int 0, .int 0, .int 0, .int 0, .int 0, .null, .null, .null, .null, .null, .null, .null, .null, .null, .null, .int 0, .null, .null, .null, .null, .null, .int 0, .null, .null, .null, .int 0, .null, .null, .int 0, .null, .null, .int 0, .null, .null, .int 0, .null, .null, .null, .null, .null, .int 0, .int 0, .int 0, .int 0, .int 0, .int 0, .int 0, .int 0, .int 0, .int 0, .int 0, .null, .null, .null, .null, .null, .null, .null, .null]))]) FK12_7 wf_X12_27 (by decide +kernel) rfl rfl rfl rfl rfl dX12_init_46 ?_
  refine c_aloadn hx 0 rfl rfl dX12_init_49 ?_
  refine c_sipush hx cs_403 dX12_init_50 ?_
  refine c_newarr hx (t := 53) (i := 0) (N := 403) (atype := .long) wac_long (by decide) (by decide) rfl (by decide +kernel) rfl (by decide) (by decide) (hA 5 _ rfl) ⟨Nat.le_of_ble_eq_true rfl, Nat.le_of_ble_eq_true rfl⟩ dX12_init_53 ?_
  refine c_C (C' := (6, 5612)) rfl ?_
  refine c_put hx (ty := (.array .long)) 0 (xs' := [(kad k 12 0, .inr (12, [.int 0, .ref (kad k 48 0), .int 0, .ref (kad k 49 0), .int 0, .ref (kad k 50 0), .ref (kad k 51 0), .ref (kad k 52 0), .ref (kad k 53 0), .null, .int 0, .int 0, .int 0, .int 0, .int 0, .int 0, .int 0, .int 0, .int 0, .int 0, .int 0, .null, .null, .null, .null, .null, .null, .null, .null, .null, .null, .int 0, .null, .null, .null, .null, .null, .int 0, .null, .null, .null, .int 0, .null, .null, .int 0, .null, .null, .int 0, .null, .null, .int 0, .null, .null, .null, .null, .null, .int 0, .int 0, .int 0, .int 0, .int 0, .int 0, .int 0, .int 0, .int 0, .int 0, .int 0, .null, .null, .null, .null, .null, .null, .null, .null]))]) FK12_8 wf_X12_30 (by decide +kernel) rfl rfl rfl rfl rfl dX12_init_55 ?_
  refine c_aloadn hx 0 rfl rfl dX12_init_58 ?_
  refine c_bipush hx cb_22 dX12_init_59 ?_
  refine c_newarr hx (t := 54) (i := 0) (N := 22) (atype := .long) wac_long (by decide) (by decide) rfl (by decide +kernel) rfl (by decide) (by decide) (hA 6 _ rfl) ⟨Nat.le_of_ble_eq_true rfl, Nat.le_of_ble_eq_true rfl⟩ dX12_init_61 ?_
  refine c_C (C' := (7, 5634)) rfl ?_
  refine c_put hx (ty := (.array .long)) 0 (xs' := [(kad k 12 0, .inr (12, [.int 0, .ref (kad k 48 0), .int 0, .ref (kad k 49 0), .int 0, .ref (kad k 50 0), .ref (kad k 51 0), .ref (kad k 52 0), .ref (kad k 53 0), .ref (kad k 54 0), .int 0, .int 0, .int 0, .int 0, .int 0, .int 0, .int 0, .int 0, .int 0, .int 0, .int 0, .null, .null, .null, .null, .null, .null, .null, .null, .null, .null, .int 0, .null, .null, .null, .null, .null, .int 0, .null, .null, .null, .int 0, .null, .null, .int 0, .null, .null, .int 0, .null, .null, .int 0, .null, .null, .null, .null, .null, .int 0, .int 0, .int 0, .int 0, .int 0, .int 0, .int 0, .int 0, .int 0, .int 0, .int 0, .null, .null, .null, .null, .null, .null, .null, .null]))]) FK12_9 wf_X12_34 (by decide +kernel) rfl rfl rfl rfl rfl dX12_init_63 ?_
  refine c_aloadn hx 0 rfl rfl dX12_init_66 ?_
  refine c_iconst hx ci_m1 dX12_init_67 ?_
  refine c_put hx (ty := .int) 0 (xs' := [(kad k 12 0, .inr (12, [.int 0, .ref (kad k 48 0), .int 0, .ref (kad k 49 0), .int 0, .ref (kad k 50 0), .ref (kad k 51 0), .ref (kad k 52 0), .ref (kad k 53 0), .ref (kad k 54 0), .int 0, .int 0, .int 0, .int 0, .int 0, .int 0, .int 0, .int (-1), .int 0, .int 0, .int 0, .null, .null, .null, .null, .null, .null, .null, .null, .null, .null, .int 0, .null, .null, .null, .null, .null, .int 0, .null, .null, .null, .int 0, .null, .null, .int 0, .null, .null, .int 0, .null, .null, .int 0, .null, .null, .null, .null, .null, .int 0, .int 0, .int 0, .int 0, .int 0, .int 0, .int 0, .int 0, .int 0, .int 0, .int 0, .null, .null, .null, .null, .null, .null, .null, .null]))]) FK12_17 wf_X12_37 (by decide +kernel) rfl rfl rfl rfl rfl dX12_init_68 ?_
  refine c_aloadn hx 0 rfl rfl dX12_init_71 ?_
  refine c_bipush hx cb_9 dX12_init_72 ?_
  refine c_newarr hx (t := 55) (i := 0) (N := 9) (atype := .long) wac_long (by decide) (by decide) rfl (by decide +kernel) rfl (by decide) (by decide) (hA 7 _ rfl) ⟨Nat.le_of_ble_eq_true rfl, Nat.le_of_ble_eq_true rfl⟩ dX12_init_74 ?_
  refine c_C (C' := (8, 5643)) rfl ?_
  refine c_put hx (ty := (.array .long)) 0 (xs' := [(kad k 12 0, .inr (12, [.int 0, .ref (kad k 48 0), .int 0, .ref (kad k 49 0), .int 0, .ref (kad k 50 0), .ref (kad k 51 0), .ref (kad k 52 0), .ref (kad k 53 0), .ref (kad k 54 0), .int 0, .int 0, .int 0, .int 0, .int 0, .int 0, .int 0, .int (-1), .int 0, .int 0, .int 0, .ref (kad k 55 0), .null, .null, .null, .null, .null, .null, .null, .null, .null, .int 0, .null, .null, .null, .null, .null, .int 0, .null, .null, .null, .int 0, .null, .null, .int 0, .null, .null, .int 0, .null, .null, .int 0, .null, .null, .null, .null, .null, .int 0, .int 0, .int 0, .int 0, .int 0, .int 0, .int 0, .int 0, .int 0, .int 0, .int 0, .null, .null, .null, .null, .null, .null, .null, .null]))]) FK12_21 wf_X12_40 (by decide +kernel) rfl rfl rfl rfl rfl dX12_init_76 ?_
  refine c_aloadn hx 0 rfl rfl dX12_init_79 ?_
  refine c_iconst hx ci_2 dX12_init_80 ?_
  refine c_newarr hx (t := 56) (i := 0) (N := 2) (atype := .int) wac_int (by decide) (by decide) rfl (by decide +kernel) rfl (by decide) (by decide) (hA 8 _ rfl) ⟨Nat.le_of_ble_eq_true rfl, Nat.le_of_ble_eq_true rfl⟩ dX12_init_81 ?_
  refine c_C (C' := (9, 5645)) rfl ?_
  refine c_put hx (ty := (.array .int)) 0 (xs' := [(kad k 12 0, .inr (12, [.int 0, .ref (kad k 48 0), .int 0, .ref (kad k 49 0), .int 0, .ref (kad k 50 0), .ref (kad k 51 0), .ref (kad k 52 0), .ref (kad k 53 0), .ref (kad k 54 0), .int 0, .int 0, .int 0, .int 0, .int 0, .int 0, .int 0, .int (-1), .int 0, .int 0, .int 0, .ref (kad k 55 0), .ref (kad k 56 0), .null, .null, .null, .null, .null, .null, .null, .null, .int 0, .null, .null, .null, .null, .null, .int 0, .null, .null, .null, .int 0, .null, .null, .int 0, .null, .null, .int 0, .null, .null, .int 0, .null, .null, .null, .null, .null, .int 0, .int 0, .int 0, .int 0, .int 0, .int 0, .int 0, .int 0, .int 0, .int 0, .int 0, .null, .null, .null, .null, .null, .null, .null, .null]))]) FK12_22 wf_X12_43 (by decide +kernel) rfl rfl rfl rfl rfl dX12_init_83 ?_
  refine c_aloadn hx 0 rfl rfl dX12_init_86 ?_
  refine c_iconst hx ci_2 dX12_init_87 ?_
  refine c_newarr hx (t := 57) (i := 0) (N := 2) (atype := .int) wac_int (by decide) (by decide) rfl (by decide +kernel) rfl (by decide) (by decide) (hA 9 _ rfl) ⟨Nat.le_of_ble_eq_true rfl, Nat.le_of_ble_eq_true rfl⟩ dX12_init_88 ?_
  refine c_C (C' := (10, 5647)) rfl ?_
  refine c_put hx (ty := (.array .int)) 0 (xs' := [(kad k 12 0, .inr (12, [.int 0, .ref (kad k 48 0), .int 0, .ref (kad k 49 0), .int 0, .ref (kad k 50 0), .ref (kad k 51 0), .ref (kad k 52 0), .ref (kad k 53 0), .ref (kad k 54 0), .int 0, .int 0, .int 0, .int 0, .int 0, .int 0, .int 0, .int (-1), .int 0, .int 0, .int 0, .ref (kad k 55 0), .ref (kad k 56 0), .ref (kad k 57 0), .null, .null, .null, .null, .null, .null, .null, .int 0, .null, .null, .null, .null, .null, .int 0, .null, .null, .null, .int 0, .null, .null, .int 0, .null, .null, .int 0, .null, .null, .int 0, .null, .null, .null, .null, .null, .int 0, .int 0, .int 0, .int 0, .int 0, .int 0, .int 0, .int 0, .int 0, .int 0, .int 0, .null, .null, .null, .null, .null, .null, .null, .null]))]) FK12_23 wf_X12_46 (by decide +kernel) rfl rfl rfl rfl rfl dX12_init_90 ?_
  refine c_aloadn hx 0 rfl rfl dX12_init_93 ?_
  refine c_bipush hx cb_18 dX12_init_94 ?_
  refine c_newarr hx (t := 58) (i := 0) (N := 18) (atype := .int) wac_int (by decide) (by decide) rfl (by decide +kernel) rfl (by decide) (by decide) (hA 10 _ rfl) ⟨Nat.le_of_ble_eq_true rfl, Nat.le_of_ble_eq_true rfl⟩ dX12_init_96 ?_
  refine c_C (C' := (11, 5665)) rfl ?_
  refine c_put hx (ty := (.array .int)) 0 (xs' := [(kad k 12 0, .inr (12, [.int 0, .ref (kad k 48 0), .int 0, .ref (kad k 49 0), .int 0, .ref (kad k 50 0), .ref (kad k 51 0), .ref (kad k 52 0), .ref (kad k 53 0), .ref (kad k 54 0), .int 0, .int 0, .int 0, .int 0, .int 0, .int 0, .int 0, .int (-1), .int 0, .int 0, .int 0, .ref (kad k 55 0), .ref (kad k 56 0), .ref (kad k 57 0), .ref (kad k 58 0), .null, .null, .null, .null, .null, .null, .int 0, .null, .null, .null, .null, .null, .int 0, .null, .null, .null, .int 0, .null, .null, .int 0, .null, .null, .int 0, .null, .null, .int 0, .null, .null, .null, .null, .null, .int 0, .int 0, .int 0, .int 0, .int 0, .int 0, .int 0, .int 0, .int 0, .int 0, .int 0, .null, .null, .null, .null, .null, .null, .null, .null]))]) FK12_24 wf_X12_49 (by decide +kernel) rfl rfl rfl rfl rfl dX12_init_98 ?_
  refine c_aloadn hx 0 rfl rfl dX12_init_101 ?_
  refine c_sipush hx cs_144 dX12_init_102 ?_
  refine c_newarr hx (t := 59) (i := 0) (N := 144) (atype := .int) wac_int (by decide) (by decide) rfl (by decide +kernel) rfl (by decide) (by decide) (hA 11 _ rfl) ⟨Nat.le_of_ble_eq_true rfl, Nat.le_of_ble_eq_true rfl⟩ dX12_init_105 ?_
  refine c_C (C' := (12, 5809)) rfl ?_
  refine c_put hx (ty := (.array .int)) 0 (xs' := [(kad k 12 0, .inr (12, [.int 0, .ref (kad k 48 0), .int 0, .ref (kad k 49 0), .int 0, .ref (kad k 50 0), .ref (kad k 51 0), .ref (kad k 52 0), .ref (kad k 53 0), .ref (kad k 54 0), .int 0, .int 0, .int 0, .int 0, .int 0, .int 0, .int 0, .int (-1), .int 0, .int 0, .int 0, .ref (kad k 55 0), .ref (kad k 56 0), .ref (kad k 57 0), .ref (kad k 58 0), .ref (kad k 59 0), .null, .null, .null, .null, .null, .int 0, .null, .null, .null, .null, .null, .int 0, .null, .null, .null, .int 0, .null, .null, .int 0, .null, .null, .int 0, .null, .null, .int 0, .null, .null, .null, .null, .null, .int 0, .int 0, .int 0, .int 0, .int 0, .int 0, .int 0, .int 0, .int 0, .int 0, .int 0, .null, .null, .null, .null, .null, .null, .null, .null]))]) FK12_25 wf_X12_52 (by decide +kernel) rfl rfl rfl rfl rfl dX12_init_107 ?_
  refine c_aloadn hx 0 rfl rfl dX12_init_110 ?_
  refine c_sipush hx cs_144 dX12_init_111 ?_
  refine c_newarr hx (t := 60) (i := 0) (N := 144) (atype := .int) wac_int (by decide) (by decide) rfl (by decide +kernel) rfl (by decide) (by decide) (hA 12 _ rfl) ⟨Nat.le_of_ble_eq_true rfl, Nat.le_of_ble_eq_true rfl⟩ dX12_init_114 ?_
  refine c_C (C' := (13, 5953)) rfl ?_
  refine c_put hx (ty := (.array .int)) 0 (xs' := [(kad k 12 0, .inr (12, [.int 0, .ref (kad k 48 0), .int 0, .ref (kad k 49 0), .int 0, .ref (kad k 50 0), .ref (kad k 51 0), .ref (kad k 52 0), .ref (kad k 53 0), .ref (kad k 54 0), .int 0, .int 0, .int 0, .int 0, .int 0, .int 0, .int 0, .int (-1), .int 0, .int 0, .int 0, .ref (kad k 55 0), .ref (kad k 56 0), .ref (kad k 57 0), .ref (kad k 58 0), .ref (kad k 59 0), .ref (kad k 60 0), .null, .null, .null, .null, .int 0, .null, .null, .null, .null, .null, .int 0, .null, .null, .null, .int 0, .null, .null, .int 0, .null, .null, .int 0, .null, .null, .int 0, .null, .null, .null, .null, .null, .int 0, .int 0, .int 0, .int 0, .int 0, .int 0, .int 0, .int 0, .int 0, .int 0, .int 0, .null, .null, .null, .null, .null, .null, .null, .null]))]) FK12_26 wf_X12_55 (by decide +kernel) rfl rfl rfl rfl rfl dX12_init_116 ?_
  refine c_aloadn hx 0 rfl rfl dX12_init_119 ?_
  refine c_bipush hx cb_8 dX12_init_120 ?_
  refine c_newarr hx (t := 61) (i := 0) (N := 8) (atype := .int) wac_int (by decide) (by decide) rfl (by decide +kernel) rfl (by decide) (by decide) (hA 13 _ rfl) ⟨Nat.le_of_ble_eq_true rfl, Nat.le_of_ble_eq_true rfl⟩ dX12_init_122 ?_
  refine c_C (C' := (14, 5961)) rfl ?_
  refine c_put hx (ty := (.array .int)) 0 (xs' := [(kad k 12 0, .inr (12, [.int 0, .ref (kad k 48 0), .int 0, .ref (kad k 49 0), .int 0, .ref (kad k 50 0), .ref (kad k 51 0), .ref (kad k 52 0), .ref (kad k 53 0), .ref (kad k 54 0), .int 0, .int 0, .int 0, .int 0, .int 0, .int 0, .int 0, .int (-1), .int 0, .int 0, .int 0, .ref (kad k 55 0), .ref (kad k 56 0), .ref (kad k 57 0), .ref (kad k 58 0), .ref (kad k 59 0), .ref (kad k 60 0), .ref (kad k 61 0), .null, .null, .null, .int 0, .null, .null, .null, .null, .null, .int 0, .null, .null, .null, .int 0, .null, .null, .int 0, .null, .null, .int 0, .null, .null, .int 0, .null, .null, .null, .null, .null, .int 0, .int 0, .int 0, .int 0, .int 0, .int 0, .int 0, .int 0, .int 0, .int 0, .int 0, .null, .null, .null, .null, .null, .null, .null, .null]))]) FK12_27 wf_X12_58 (by decide +kernel) rfl rfl rfl rfl rfl dX12_init_124 ?_
  refine c_aloadn hx 0 rfl rfl dX12_init_127 ?_
  refine c_iconst hx ci_2 dX12_init_128 ?_
  refine c_newarr hx (t := 62) (i := 0) (N := 2) (atype := .int) wac_int (by decide) (by decide) rfl (by decide +kernel) rfl (by decide) (by decide) (hA 14 _ rfl) ⟨Nat.le_of_ble_eq_true rfl, Nat.le_of_ble_eq_true rfl⟩ dX12_init_129 ?_
  refine c_C (C' := (15, 5963)) rfl ?_
  refine c_put hx (ty := (.array .int)) 0 (xs' := [(kad k 12 0, .inr (12, [.int 0, .ref (kad k 48 0), .int 0, .ref (kad k 49 0), .int 0, .ref (kad k 50 0), .ref (kad k 51 0), .ref (kad k 52 0), .ref (kad k 53 0), .ref (kad k 54 0), .int 0, .int 0, .int 0, .int 0, .int 0, .int 0, .int 0, .int (-1), .int 0, .int 0, .int 0, .ref (kad k 55 0), .ref (kad k 56 0), .ref (kad k 57 0), .ref (kad k 58 0), .ref (kad k 59 0), .ref (kad k 60 0), .ref (kad k 61 0), .ref (kad k 62 0), .null, .null, .int 0, .null, .null, .null, .null, .null, .int 0, .null, .null, .null, .int 0, .null, .null, .int 0, .null, .null, .int 0, .null, .null, .int 0, .null, .null, .null, .null, .null, .int 0, .int 0, .int 0, .int 0, .int 0, .int 0, .int 0, .int 0, .int 0, .int 0, .int 0, .null, .null, .null, .null, .null, .null, .null, .null]))]) FK12_28 wf_X12_61 (by decide +kernel) rfl rfl rfl rfl rfl dX12_init_131 ?_
  refine c_aloadn hx 0 rfl rfl dX12_init_134 ?_
  refine c_bipush hx cb_8 dX12_init_135 ?_
  refine c_newarr hx (t := 63) (i := 0) (N := 8) (atype := .int) wac_int (by decide) (by decide) rfl (by decide +kernel) rfl (by decide) (by decide) (hA 15 _ rfl) ⟨Nat.le_of_ble_eq_true rfl, Nat.le_of_ble_eq_true rfl⟩ dX12_init_137 ?_
  refine c_C (C' := (16, 5971)) rfl ?_
  refine c_put hx (ty := (.array .int)) 0 (xs' := [(kad k 12 0, .inr (12, [.int 0, .ref (kad k 48 0), .int 0, .ref (kad k 49 0), .int 0, .ref (kad k 50 0), .ref (kad k 51 0), .ref (kad k 52 0), .ref (kad k 53 0), .ref (kad k 54 0), .int 0, .int 0, .int 0, .int 0, .int 0, .int 0, .int 0, .int (-1), .int 0, .int 0, .int 0, .ref (kad k 55 0), .ref (kad k 56 0), .ref (kad k 57 0), .ref (kad k 58 0), .ref (kad k 59 0), .ref (kad k 60 0), .ref (kad k 61 0), .ref (kad k 62 0), .ref (kad k 63 0), .null, .int 0, .null, .null, .null, .null, .null, .int 0, .null, .null, .null, .int 0, .null, .null, .int 0, .null, .null, .int 0, .null, .null, .int 0, .null, .null, .null, .null, .null, .int 0, .int 0, .int 0, .int 0, .int 0, .int 0, .int 0, .int 0, .int 0, .int 0, .int 0, .null, .null, .null, .null, .null, .null, .null, .null]))]) FK12_29 wf_X12_64 (by decide +kernel) rfl rfl rfl rfl rfl dX12_init_139 ?_
  refine c_aloadn hx 0 rfl rfl dX12_init_142 ?_
  refine c_bipush hx cb_8 dX12_init_143 ?_
  refine c_newarr hx (t := 64) (i := 0) (N := 8) (atype := .int) wac_int (by decide) (by decide) rfl (by decide +kernel) rfl (by decide) (by decide) (hA 16 _ rfl) ⟨Nat.le_of_ble_eq_true rfl, Nat.le_of_ble_eq_true rfl⟩ dX12_init_145 ?_
  refine c_C (C' := (17, 5979)) rfl ?_
  refine c_put hx (ty := (.array .int)) 0 (xs' := [(kad k 12 0, .inr (12, [.int 0, .ref (kad k 48 0), .int 0, .ref (kad k 49 0), .int 0, .ref (kad k 50 0), .ref (kad k 51 0), .ref (kad k 52 0), .ref (kad k 53 0), .ref (kad k 54 0), .int 0, .int 0, .int 0, .int 0, .int 0, .int 0, .int 0, .int (-1), .int 0, .int 0, .int 0, .ref (kad k 55 0), .ref (kad k 56 0), .ref (kad k 57 0), .ref (kad k 58 0), .ref (kad k 59 0), .ref (kad k 60 0), .ref (kad k 61 0), .ref (kad k 62 0), .ref (kad k 63 0), .ref (kad k 64 0), .int 0, .null, .null, .null, .null, .null, .int 0, .null, .null, .null, .int 0, .null, .null, .int 0, .null, .null, .int 0, .null, .null, .int 0, .null, .null, .null, .null, .null, .int 0, .int 0, .int 0, .int 0, .int 0, .int 0, .int 0, .int 0, .int 0, .int 0, .int 0, .null, .null, .null, .null, .null, .null, .null, .null]))]) FK12_30 wf_X12_67 (by decide +kernel) rfl rfl rfl rfl rfl dX12_init_147 ?_
  refine c_aloadn hx 0 rfl rfl dX12_init_150 ?_
  refine c_sipush hx cs_260 dX12_init_151 ?_
  refine c_newarr hx (t := 65) (i := 0) (N := 260) (atype := .boolean) wac_boolean (by decide) (by decide) rfl (by decide +kernel) rfl (by decide) (by decide) (hA 17 _ rfl) ⟨Nat.le_of_ble_eq_true rfl, Nat.le_of_ble_eq_true rfl⟩ dX12_init_154 ?_
  refine c_C (C' := (18, 6239)) rfl ?_
  refine c_put hx (ty := (.array .boolean)) 0 (xs' := [(kad k 12 0, .inr (12, [.int 0, .ref (kad k 48 0), .int 0, .ref (kad k 49 0), .int 0, .ref (kad k 50 0), .ref (kad k 51 0), .ref (kad k 52 0), .ref (kad k 53 0), .ref (kad k 54 0), .int 0, .int 0, .int 0, .int 0, .int 0, .int 0, .int 0, .int (-1), .int 0, .int 0, .int 0, .ref (kad k 55 0), .ref (kad k 56 0), .ref (kad k 57 0), .ref (kad k 58 0), .ref (kad k 59 0), .ref (kad k 60 0), .ref (kad k 61 0), .ref (kad k 62 0), .ref (kad k 63 0), .ref (kad k 64 0), .int 0, .ref (kad k 65 0), .null, .null, .null, .null, .int 0, .null, .null, .null, .int 0, .null, .null, .int 0, .null, .null, .int 0, .null, .null, .int 0, .null, .null, .null, .null, .null, .int 0, .int 0, .int 0, .int 0, .int 0, .int 0, .int 0, .int 0, .int 0, .int 0, .int 0, .null, .null, .null, .null, .null, .null, .null, .null]))]) FK12_32 wf_X12_70 (by decide +kernel) rfl rfl rfl rfl rfl dX12_init_156 ?_
  refine c_aloadn hx 0 rfl rfl dX12_init_159 ?_
  refine c_sipush hx cs_260 dX12_init_160 ?_
  refine c_newarr hx (t := 66) (i := 0) (N := 260) (atype := .int) wac_int (by decide) (by decide) rfl (by decide +kernel) rfl (by decide) (by decide) (hA 18 _ rfl) ⟨Nat.le_of_ble_eq_true rfl, Nat.le_of_ble_eq_true rfl⟩ dX12_init_163 ?_
  refine c_C (C' := (19, 6499)) rfl ?_
  refine c_put hx (ty := (.array .int)) 0 (xs' := [(kad k 12 0, .inr (12, [.int 0, .ref (kad k 48 0), .int 0, .ref (kad k 49 0), .int 0, .ref (kad k 50 0), .ref (kad k 51 0), .ref (kad k 52 0), .ref (kad k 53 0), .ref (kad k 54 0), .int 0, .int 0, .int 0, .int 0, .int 0, .int 0, .int 0, .int (-1), .int 0, .int 0, .int 0, .ref (kad k 55 0), .ref (kad k 56 0), .ref (kad k 57 0), .ref (kad k 58 0), .ref (kad k 59 0), .ref (kad k 60 0), .ref (kad k 61 0), .ref (kad k 62 0), .ref (kad k 63 0), .ref (kad k 64 0), .int 0, .ref (kad k 65 0), .ref (kad k 66 0), .null, .null, .null, .int 0, .null, .null, .null, .int 0, .null, .null, .int 0, .null, .null, .int 0, .null, .null, .int 0, .null, .null, .null, .null, .null, .int 0, .int 0, .int 0, .int 0, .int 0, .int 0, .int 0, .int 0, .int 0, .int 0, .int 0, .null, .null, .null, .null, .null, .null, .null, .null]))]) FK12_33 wf_X12_74 (by decide +kernel) rfl rfl rfl rfl rfl dX12_init_165 ?_
  refine c_aloadn hx 0 rfl rfl dX12_init_168 ?_
  refine c_sipush hx cs_260 dX12_init_169 ?_
  refine c_newarr hx (t := 67) (i := 0) (N := 260) (atype := .int) wac_int (by decide) (by decide) rfl (by decide +kernel) rfl (by decide) (by decide) (hA 19 _ rfl) ⟨Nat.le_of_ble_eq_true rfl, Nat.le_of_ble_eq_true rfl⟩ dX12_init_172 ?_
  refine c_C (C' := (20, 6759)) rfl ?_
  refine c_put hx (ty := (.array .int)) 0 (xs' := [(kad k 12 0, .inr (12, [.int 0, .ref (kad k 48 0), .int 0, .ref (kad k 49 0), .int 0, .ref (kad k 50 0), .ref (kad k 51 0), .ref (kad k 52 0), .ref (kad k 53 0), .ref (kad k 54 0), .int 0, .int 0, .int 0, .int 0, .int 0, .int 0, .int 0, .int (-1), .int 0, .int 0, .int 0, .ref (kad k 55 0), .ref (kad k 56 0), .ref (kad k 57 0), .ref (kad k 58 0), .ref (kad k 59 0), .ref (kad k 60 0), .ref (kad k 61 0), .ref (kad k 62 0), .ref (kad k 63 0), .ref (kad k 64 0), .int 0, .ref (kad k 65 0), .ref (kad k 66 0), .ref (kad k 67 0), .null, .null, .int 0, .null, .null, .null, .int 0, .null, .null, .int 0, .null, .null, .int 0, .null, .null, .int 0, .null, .null, .null, .null, .null, .int 0, .int 0, .int 0, .int 0, .int 0, .int 0, .int 0, .int 0, .int 0, .int 0, .int 0, .null, .null, .null, .null, .null, .null, .null, .null]))]) FK12_34 wf_X12_77 (by decide +kernel) rfl rfl rfl rfl rfl dX12_init_174 ?_
  refine c_aloadn hx 0 rfl rfl dX12_init_177 ?_
  refine c_sipush hx cs_260 dX12_init_178 ?_
  refine c_newarr hx (t := 68) (i := 0) (N := 260) (atype := .int) wac_int (by decide) (by decide) rfl (by decide +kernel) rfl (by decide) (by decide) (hA 20 _ rfl) ⟨Nat.le_of_ble_eq_true rfl, Nat.le_of_ble_eq_true rfl⟩ dX12_init_181 ?_
  refine c_C (C' := (21, 7019)) rfl ?_
  refine c_put hx (ty := (.array .int)) 0 (xs' := [(kad k 12 0, .inr (12, [.int 0, .ref (kad k 48 0), .int 0, .ref (kad k 49 0), .int 0, .ref (kad k 50 0), .ref (kad k 51 0), .ref (kad k 52 0), .ref (kad k 53 0), .ref (kad k 54 0), .int 0, .int 0, .int 0, .int 0, .int 0, .int 0, .int 0, .int (-1), .int 0, .int 0, .int 0, .ref (kad k 55 0), .ref (kad k 56 0), .ref (kad k 57 0), .ref (kad k 58 0), .ref (kad k 59 0), .ref (kad k 60 0), .ref (kad k 61 0), .ref (kad k 62 0), .ref (kad k 63 0), .ref (kad k 64 0), .int 0, .ref (kad k 65 0), .ref (kad k 66 0), .ref (kad k 67 0), .ref (kad k 68 0), .null, .int 0, .null, .null, .null, .int 0, .null, .null, .int 0, .null, .null, .int 0, .null, .null, .int 0, .null, .null, .null, .null, .null, .int 0, .int 0, .int 0, .int 0, .int 0, .int 0, .int 0, .int 0, .int 0, .int 0, .int 0, .null, .null, .null, .null, .null, .null, .null, .null]))]) FK12_35 wf_X12_80 (by decide +kernel) rfl rfl rfl rfl rfl dX12_init_183 ?_
  refine c_aloadn hx 0 rfl rfl dX12_init_186 ?_
  refine c_sipush hx cs_260 dX12_init_187 ?_
  refine c_newarr hx (t := 69) (i := 0) (N := 260) (atype := .int) wac_int (by decide) (by decide) rfl (by decide +kernel) rfl (by decide) (by decide) (hA 21 _ rfl) ⟨Nat.le_of_ble_eq_true rfl, Nat.le_of_ble_eq_true rfl⟩ dX12_init_190 ?_
  refine c_C (C' := (22, 7279)) rfl ?_
  refine c_put hx (ty := (.array .int)) 0 (xs' := [(kad k 12 0, .inr (12, [.int 0, .ref (kad k 48 0), .int 0, .ref (kad k 49 0), .int 0, .ref (kad k 50 0), .ref (kad k 51 0), .ref (kad k 52 0), .ref (kad k 53 0), .ref (kad k 54 0), .int 0, .int 0, .int 0, .int 0, .int 0, .int 0, .int 0, .int (-1), .int 0, .int 0, .int 0, .ref (kad k 55 0), .ref (kad k 56 0), .ref (kad k 57 0), .ref (kad k 58 0), .ref (kad k 59 0), .ref (kad k 60 0), .ref (kad k 61 0), .ref (kad k 62 0), .ref (kad k 63 0), .ref (kad k 64 0), .int 0, .ref (kad k 65 0), .ref (kad k 66 0), .ref (kad k 67 0), .ref (kad k 68 0), .ref (kad k 69 0), .int 0, .null, .null, .null, .int 0, .null, .null, .int 0, .null, .null, .int 0, .null, .null, .int 0, .null, .null, .null, .null, .null, .int 0, .int 0, .int 0, .int 0, .int 0, .int 0, .int 0, .int 0, .int 0, .int 0, .int 0, .null, .null, .null, .null, .null, .null, .null, .null]))]) FK12_36 wf_X12_83 (by decide +kernel) rfl rfl rfl rfl rfl dX12_init_192 ?_
  refine c_aloadn hx 0 rfl rfl dX12_init_195 ?_
  refine c_sipush hx cs_840 dX12_init_196 ?_
  refine c_newarr hx (t := 70) (i := 0) (N := 840) (atype := .int) wac_int (by decide) (by decide) rfl (by decide +kernel) rfl (by decide) (by decide) (hA 22 _ rfl) ⟨Nat.le_of_ble_eq_true rfl, Nat.le_of_ble_eq_true rfl⟩ dX12_init_199 ?_
  refine c_C (C' := (23, 8119)) rfl ?_
  refine c_put hx (ty := (.array .int)) 0 (xs' := [(kad k 12 0, .inr (12, [.int 0, .ref (kad k 48 0), .int 0, .ref (kad k 49 0), .int 0, .ref (kad k 50 0), .ref (kad k 51 0), .ref (kad k 52 0), .ref (kad k 53 0), .ref (kad k 54 0), .int 0, .int 0, .int 0, .int 0, .int 0, .int 0, .int 0, .int (-1), .int 0, .int 0, .int 0, .ref (kad k 55 0), .ref (kad k 56 0), .ref (kad k 57 0), .ref (kad k 58 0), .ref (kad k 59 0), .ref (kad k 60 0), .ref (kad k 61 0), .ref (kad k 62 0), .ref (kad k 63 0), .ref (kad k 64 0), .int 0, .ref (kad k 65 0), .ref (kad k 66 0), .ref (kad k 67 0), .ref (kad k 68 0), .ref (kad k 69 0), .int 0, .ref (kad k 70 0), .null, .null, .int 0, .null, .null, .int 0, .null, .null, .int 0, .null, .null, .int 0, .null, .null, .null, .null, .null, .int 0, .int 0, .int 0, .int 0, .int 0, .int 0, .int 0, .int 0, .int 0, .int 0, .int 0, .null, .null, .null, .null, .null, .null, .null, .null]))]) FK12_38 wf_X12_86 (by decide +kernel) rfl rfl rfl rfl rfl dX12_init_201 ?_
  refine c_aloadn hx 0 rfl rfl dX12_init_204 ?_
  refine c_sipush hx cs_840 dX12_init_205 ?_
  refine c_newarr hx (t := 71) (i := 0) (N := 840) (atype := .int) wac_int (by decide) (by decide) rfl (by decide +kernel) rfl (by decide) (by decide) (hA 23 _ rfl) ⟨Nat.le_of_ble_eq_true rfl, Nat.le_of_ble_eq_true rfl⟩ dX12_init_208 ?_
  refine c_C (C' := (24, 8959)) rfl ?_
  refine c_put hx (ty := (.array .int)) 0 (xs' := [(kad k 12 0, .inr (12, [.int 0, .ref (kad k 48 0), .int 0, .ref (kad k 49 0), .int 0, .ref (kad k 50 0), .ref (kad k 51 0), .ref (kad k 52 0), .ref (kad k 53 0), .ref (kad k 54 0), .int 0, .int 0, .int 0, .int 0, .int 0, .int 0, .int 0, .int (-1), .int 0, .int 0, .int 0, .ref (kad k 55 0), .ref (kad k 56 0), .ref (kad k 57 0), .ref (kad k 58 0), .ref (kad k 59 0), .ref (kad k 60 0), .ref (kad k 61 0), .ref (kad k 62 0), .ref (kad k 63 0), .ref (kad k 64 0), .int 0, .ref (kad k 65 0), .ref (kad k 66 0), .ref (kad k 67 0), .ref (kad k 68 0), .ref (kad k 69 0), .int 0, .ref (kad k 70 0), .ref (kad k 71 0), .null, .int 0, .null, .null, .int 0, .null, .null, .int 0, .null, .null, .int 0, .null, .null, .null, .null, .null, .int 0, .int 0, .int 0, .int 0, .int 0, .int 0, .int 0, .int 0, .int 0, .int 0, .int 0, .null, .null, .null, .null, .null, .null, .null, .null]))]) FK12_39 wf_X12_89 (by decide +kernel) rfl rfl rfl rfl rfl dX12_init_210 ?_
  refine c_aloadn hx 0 rfl rfl dX12_init_213 ?_
  refine c_bipush hx cb_64 dX12_init_214 ?_
  refine c_newarr hx (t := 72) (i := 0) (N := 64) (atype := .int) wac_int (by decide) (by decide) rfl (by decide +kernel) rfl (by decide) (by decide) (hA 24 _ rfl) ⟨Nat.le_of_ble_eq_true rfl, Nat.le_of_ble_eq_true rfl⟩ dX12_init_216 ?_
  refine c_C (C' := (25, 9023)) rfl ?_
  refine c_put hx (ty := (.array .int)) 0 (xs' := [(kad k 12 0, .inr (12, [.int 0, .ref (kad k 48 0), .int 0, .ref (kad k 49 0), .int 0, .ref (kad k 50 0), .ref (kad k 51 0), .ref (kad k 52 0), .ref (kad k 53 0), .ref (kad k 54 0), .int 0, .int 0, .int 0, .int 0, .int 0, .int 0, .int 0, .int (-1), .int 0, .int 0, .int 0, .ref (kad k 55 0), .ref (kad k 56 0), .ref (kad k 57 0), .ref (kad k 58 0), .ref (kad k 59 0), .ref (kad k 60 0), .ref (kad k 61 0), .ref (kad k 62 0), .ref (kad k 63 0), .ref (kad k 64 0), .int 0, .ref (kad k 65 0), .ref (kad k 66 0), .ref (kad k 67 0), .ref (kad k 68 0), .ref (kad k 69 0), .int 0, .ref (kad k 70 0), .ref (kad k 71 0), .ref (kad k 72 0), .int 0, .null, .null, .int 0, .null, .null, .int 0, .null, .null, .int 0, .null, .null, .null, .null, .null, .int 0, .int 0, .int 0, .int 0, .int 0, .int 0, .int 0, .int 0, .int 0, .int 0, .int 0, .null, .null, .null, .null, .null, .null, .null, .null]))]) FK12_40 wf_X12_92 (by decide +kernel) rfl rfl rfl rfl rfl dX12_init_218 ?_
  refine c_aloadn hx 0 rfl rfl dX12_init_221 ?_
  refine c_bipush hx cb_9 dX12_init_222 ?_
  refine c_newarr hx (t := 73) (i := 0) (N := 9) (atype := .int) wac_int (by decide) (by decide) rfl (by decide +kernel) rfl (by decide) (by decide) (hA 25 _ rfl) ⟨Nat.le_of_ble_eq_true rfl, Nat.le_of_ble_eq_true rfl⟩ dX12_init_224 ?_
  refine c_C (C' := (26, 9032)) rfl ?_
  refine c_put hx (ty := (.array .int)) 0 (xs' := [(kad k 12 0, .inr (12, [.int 0, .ref (kad k 48 0), .int 0, .ref (kad k 49 0), .int 0, .ref (kad k 50 0), .ref (kad k 51 0), .ref (kad k 52 0), .ref (kad k 53 0), .ref (kad k 54 0), .int 0, .int 0, .int 0, .int 0, .int 0, .int 0, .int 0, .int (-1), .int 0, .int 0, .int 0, .ref (kad k 55 0), .ref (kad k 56 0), .ref (kad k 57 0), .ref (kad k 58 0), .ref (kad k 59 0), .ref (kad k 60 0), .ref (kad k 61 0), .ref (kad k 62 0), .ref (kad k 63 0), .ref (kad k 64 0), .int 0, .ref (kad k 65 0), .ref (kad k 66 0), .ref (kad k 67 0), .ref (kad k 68 0), .ref (kad k 69 0), .int 0, .ref (kad k 70 0), .ref (kad k 71 0), .ref (kad k 72 0), .int 0, .ref (kad k 73 0), .null, .int 0, .null, .null, .int 0, .null, .null, .int 0, .null, .null, .null, .null, .null, .int 0, .int 0, .int 0, .int 0, .int 0, .int 0, .int 0, .int 0, .int 0, .int 0, .int 0, .null, .null, .null, .null, .null, .null, .null, .null]))]) FK12_42 wf_X12_95 (by decide +kernel) rfl rfl rfl rfl rfl dX12_init_226 ?_
  refine c_aloadn hx 0 rfl rfl dX12_init_229 ?_
  refine c_sipush hx cs_400 dX12_init_230 ?_
  refine c_newarr hx (t := 74) (i := 0) (N := 400) (atype := .int) wac_int (by decide) (by decide) rfl (by decide +kernel) rfl (by decide) (by decide) (hA 26 _ rfl) ⟨Nat.le_of_ble_eq_true rfl, Nat.le_of_ble_eq_true rfl⟩ dX12_init_233 ?_
  refine c_C (C' := (27, 9432)) rfl ?_
  refine c_put hx (ty := (.array .int)) 0 (xs' := [(kad k 12 0, .inr (12, [.int 0, .ref (kad k 48 0), .int 0, .ref (kad k 49 0), .int 0, .ref (kad k 50 0), .ref (kad k 51 0), .ref (kad k 52 0), .ref (kad k 53 0), .ref (kad k 54 0), .int 0, .int 0, .int 0, .int 0, .int 0, .int 0, .int 0, .int (-1), .int 0, .int 0, .int 0, .ref (kad k 55 0), .ref (kad k 56 0), .ref (kad k 57 0), .ref (kad k 58 0), .ref (kad k 59 0), .ref (kad k 60 0), .ref (kad k 61 0), .ref (kad k 62 0), .ref (kad k 63 0), .ref (kad k 64 0), .int 0, .ref (kad k 65 0), .ref (kad k 66 0), .ref (kad k 67 0), .ref (kad k 68 0), .ref (kad k 69 0), .int 0, .ref (kad k 70 0), .ref (kad k 71 0), .ref (kad k 72 0), .int 0, .ref (kad k 73 0), .ref (kad k 74 0), .int 0, .null, .null, .int 0, .null, .null, .int 0, .null, .null, .null, .null, .null, .int 0, .int 0, .int 0, .int 0, .int 0, .int 0, .int 0, .int 0, .int 0, .int 0, .int 0, .null, .null, .null, .null, .null, .null, .null, .null]))]) FK12_43 wf_X12_98 (by decide +kernel) rfl rfl rfl rfl rfl dX12_init_235 ?_
  refine c_aloadn hx 0 rfl rfl dX12_init_238 ?_
  refine c_bipush hx cb_14 dX12_init_239 ?_
  refine c_newarr hx (t := 75) (i := 0) (N := 14) (atype := .int) wac_int (by decide) (by decide) rfl (by decide +kernel) rfl (by decide) (by decide) (hA 27 _ rfl) ⟨Nat.le_of_ble_eq_true rfl, Nat.le_of_ble_eq_true rfl⟩ dX12_init_241 ?_
  refine c_C (C' := (28, 9446)) rfl ?_
  refine c_put hx (ty := (.array .int)) 0 (xs' := [(kad k 12 0, .inr (12, [.int 0, .ref (kad k 48 0), .int 0, .ref (kad k 49 0), .int 0, .ref (kad k 50 0), .ref (kad k 51 0), .ref (kad k 52 0), .ref (kad k 53 0), .ref (kad k 54 0), .int 0, .int 0, .int 0, .int 0, .int 0, .int 0, .int 0, .int (-1), .int 0, .int 0, .int 0, .ref (kad k 55 0), .ref (kad k 56 0), .ref (kad k 57 0), .ref (kad k 58 0), .ref (kad k 59 0), .ref (kad k 60 0), .ref (kad k 61 0), .ref (kad k 62 0), .ref (kad k 63 0), .ref (kad k 64 0), .int 0, .ref (kad k 65 0), .ref (kad k 66 0), .ref (kad k 67 0), .ref (kad k 68 0), .ref (kad k 69 0), .int 0, .ref (kad k 70 0), .ref (kad k 71 0), .ref (kad k 72 0), .int 0, .ref (kad k 73 0), .ref (kad k 74 0), .int 0, .ref (kad k 75 0), .null, .int 0, .null, .null, .int 0, .null, .null, .null, .null, .null, .int 0, .int 0, .int 0, .int 0, .int 0, .int 0, .int 0, .int 0, .int 0, .int 0, .int 0, .null, .null, .null, .null, .null, .null, .null, .null]))]) FK12_45 wf_X12_101 (by decide +kernel) rfl rfl rfl rfl rfl dX12_init_243 ?_
  refine c_aloadn hx 0 rfl rfl dX12_init_246 ?_
  refine c_bipush hx cb_14 dX12_init_247 ?_
  refine c_newarr hx (t := 76) (i := 0) (N := 14) (atype := .int) wac_int (by decide) (by decide) rfl (by decide +kernel) rfl (by decide) (by decide) (hA 28 _ rfl) ⟨Nat.le_of_ble_eq_true rfl, Nat.le_of_ble_eq_true rfl⟩ dX12_init_249 ?_
  refine c_C (C' := (29, 9460)) rfl ?_
  refine c_put hx (ty := (.array .int)) 0 (xs' := [(kad k 12 0, .inr (12, [.int 0, .ref (kad k 48 0), .int 0, .ref (kad k 49 0), .int 0, .ref (kad k 50 0), .ref (kad k 51 0), .ref (kad k 52 0), .ref (kad k 53 0), .ref (kad k 54 0), .int 0, .int 0, .int 0, .int 0, .int 0, .int 0, .int 0, .int (-1), .int 0, .int 0, .int 0, .ref (kad k 55 0), .ref (kad k 56 0), .ref (kad k 57 0), .ref (kad k 58 0), .ref (kad k 59 0), .ref (kad k 60 0), .ref (kad k 61 0), .ref (kad k 62 0), .ref (kad k 63 0), .ref (kad k 64 0), .int 0, .ref (kad k 65 0), .ref (kad k 66 0), .ref (kad k 67 0), .ref (kad k 68 0), .ref (kad k 69 0), .int 0, .ref (kad k 70 0), .ref (kad k 71 0), .ref (kad k 72 0), .int 0, .ref (kad k 73 0), .ref (kad k 74 0), .int 0, .ref (kad k 75 0), .ref (kad k 76 0), .int 0, .null, .null, .int 0, .null, .null, .null, .null, .null, .int 0, .int 0, .int 0, .int 0, .int 0, .int 0, .int 0, .int 0, .int 0, .int 0, .int 0, .null, .null, .null, .null, .null, .null, .null, .null]))]) FK12_46 wf_X12_104 (by decide +kernel) rfl rfl rfl rfl rfl dX12_init_251 ?_
  refine c_aloadn hx 0 rfl rfl dX12_init_254 ?_
  refine c_sipush hx cs_20000 dX12_init_255 ?_
  refine c_newarr hx (t := 77) (i := 0) (N := 20000) (atype := .int) wac_int (by decide) (by decide) rfl (by decide +kernel) rfl (by decide) (by decide) (hA 29 _ rfl) ⟨Nat.le_of_ble_eq_true rfl, Nat.le_of_ble_eq_true rfl⟩ dX12_init_258 ?_
  refine c_C (C' := (30, 29460)) rfl ?_
  refine c_put hx (ty := (.array .int)) 0 (xs' := [(kad k 12 0, .inr (12, [.int 0, .ref (kad k 48 0), .int 0, .ref (kad k 49 0), .int 0, .ref (kad k 50 0), .ref (kad k 51 0), .ref (kad k 52 0), .ref (kad k 53 0), .ref (kad k 54 0), .int 0, .int 0, .int 0, .int 0, .int 0, .int 0, .int 0, .int (-1), .int 0, .int 0, .int 0, .ref (kad k 55 0), .ref (kad k 56 0), .ref (kad k 57 0), .ref (kad k 58 0), .ref (kad k 59 0), .ref (kad k 60 0), .ref (kad k 61 0), .ref (kad k 62 0), .ref (kad k 63 0), .ref (kad k 64 0), .int 0, .ref (kad k 65 0), .ref (kad k 66 0), .ref (kad k 67 0), .ref (kad k 68 0), .ref (kad k 69 0), .int 0, .ref (kad k 70 0), .ref (kad k 71 0), .ref (kad k 72 0), .int 0, .ref (kad k 73 0), .ref (kad k 74 0), .int 0, .ref (kad k 75 0), .ref (kad k 76 0), .int 0, .ref (kad k 77 0), .null, .int 0, .null, .null, .null, .null, .null, .int 0, .int 0, .int 0, .int 0, .int 0, .int 0, .int 0, .int 0, .int 0, .int 0, .int 0, .null, .null, .null, .null, .null, .null, .null, .null]))]) FK12_48 wf_X12_107 (by decide +kernel) rfl rfl rfl rfl rfl dX12_init_260 ?_
  refine c_aloadn hx 0 rfl rfl dX12_init_263 ?_
  refine c_sipush hx cs_20000 dX12_init_264 ?_
  refine c_newarr hx (t := 78) (i := 0) (N := 20000) (atype := .int) wac_int (by decide) (by decide) rfl (by decide +kernel) rfl (by decide) (by decide) (hA 30 _ rfl) ⟨Nat.le_of_ble_eq_true rfl, Nat.le_of_ble_eq_true rfl⟩ dX12_init_267 ?_
  refine c_C (C' := (31, 49460)) rfl ?_
  refine c_put hx (ty := (.array .int)) 0 (xs' := [(kad k 12 0, .inr (12, [.int 0, .ref (kad k 48 0), .int 0, .ref (kad k 49 0), .int 0, .ref (kad k 50 0), .ref (kad k 51 0), .ref (kad k 52 0), .ref (kad k 53 0), .ref (kad k 54 0), .int 0, .int 0, .int 0, .int 0, .int 0, .int 0, .int 0, .int (-1), .int 0, .int 0, .int 0, .ref (kad k 55 0), .ref (kad k 56 0), .ref (kad k 57 0), .ref (kad k 58 0), .ref (kad k 59 0), .ref (kad k 60 0), .ref (kad k 61 0), .ref (kad k 62 0), .ref (kad k 63 0), .ref (kad k 64 0), .int 0, .ref (kad k 65 0), .ref (kad k 66 0), .ref (kad k 67 0), .ref (kad k 68 0), .ref (kad k 69 0), .int 0, .ref (kad k 70 0), .ref (kad k 71 0), .ref (kad k 72 0), .int 0, .ref (kad k 73 0), .ref (kad k 74 0), .int 0, .ref (kad k 75 0), .ref (kad k 76 0), .int 0, .ref (kad k 77 0), .ref (kad k 78 0), .int 0, .null, .null, .null, .null, .null, .int 0, .int 0, .int 0, .int 0, .int 0, .int 0, .int 0, .int 0, .int 0, .int 0, .int 0, .null, .null, .null, .null, .null, .null, .null, .null]))]) FK12_49 wf_X12_110 (by decide +kernel) rfl rfl rfl rfl rfl dX12_init_269 ?_
  refine c_aloadn hx 0 rfl rfl dX12_init_272 ?_
  refine c_sipush hx cs_560 dX12_init_273 ?_
  refine c_newarr hx (t := 79) (i := 0) (N := 560) (atype := .int) wac_int (by decide) (by decide) rfl (by decide +kernel) rfl (by decide) (by decide) (hA 31 _ rfl) ⟨Nat.le_of_ble_eq_true rfl, Nat.le_of_ble_eq_true rfl⟩ dX12_init_276 ?_
  refine c_C (C' := (32, 50020)) rfl ?_
  refine c_put hx (ty := (.array .int)) 0 (xs' := [(kad k 12 0, .inr (12, [.int 0, .ref (kad k 48 0), .int 0, .ref (kad k 49 0), .int 0, .ref (kad k 50 0), .ref (kad k 51 0), .ref (kad k 52 0), .ref (kad k 53 0), .ref (kad k 54 0), .int 0, .int 0, .int 0, .int 0, .int 0, .int 0, .int 0, .int (-1), .int 0, .int 0, .int 0, .ref (kad k 55 0), .ref (kad k 56 0), .ref (kad k 57 0), .ref (kad k 58 0), .ref (kad k 59 0), .ref (kad k 60 0), .ref (kad k 61 0), .ref (kad k 62 0), .ref (kad k 63 0), .ref (kad k 64 0), .int 0, .ref (kad k 65 0), .ref (kad k 66 0), .ref (kad k 67 0), .ref (kad k 68 0), .ref (kad k 69 0), .int 0, .ref (kad k 70 0), .ref (kad k 71 0), .ref (kad k 72 0), .int 0, .ref (kad k 73 0), .ref (kad k 74 0), .int 0, .ref (kad k 75 0), .ref (kad k 76 0), .int 0, .ref (kad k 77 0), .ref (kad k 78 0), .int 0, .ref (kad k 79 0), .null, .null, .null, .null, .int 0, .int 0, .int 0, .int 0, .int 0, .int 0, .int 0, .int 0, .int 0, .int 0, .int 0, .null, .null, .null, .null, .null, .null, .null, .null]))]) FK12_51 wf_X12_113 (by decide +kernel) rfl rfl rfl rfl rfl dX12_init_278 ?_
  refine c_aloadn hx 0 rfl rfl dX12_init_281 ?_
  refine c_sipush hx cs_20000 dX12_init_282 ?_
  refine c_newarr hx (t := 80) (i := 0) (N := 20000) (atype := .int) wac_int (by decide) (by decide) rfl (by decide +kernel) rfl (by decide) (by decide) (hA 32 _ rfl) ⟨Nat.le_of_ble_eq_true rfl, Nat.le_of_ble_eq_true rfl⟩ dX12_init_285 ?_
  refine c_C (C' := (33, 70020)) rfl ?_
  refine c_put hx (ty := (.array .int)) 0 (xs' := [(kad k 12 0, .inr (12, [.int 0, .ref (kad k 48 0), .int 0, .ref (kad k 49 0), .int 0, .ref (kad k 50 0), .ref (kad k 51 0), .ref (kad k 52 0), .ref (kad k 53 0), .ref (kad k 54 0), .int 0, .int 0, .int 0, .int 0, .int 0, .int 0, .int 0, .int (-1), .int 0, .int 0, .int 0, .ref (kad k 55 0), .ref (kad k 56 0), .ref (kad k 57 0), .ref (kad k 58 0), .ref (kad k 59 0), .ref (kad k 60 0), .ref (kad k 61 0), .ref (kad k 62 0), .ref (kad k 63 0), .ref (kad k 64 0), .int 0, .ref (kad k 65 0), .ref (kad k 66 0), .ref (kad k 67 0), .ref (kad k 68 0), .ref (kad k 69 0), .int 0, .ref (kad k 70 0), .ref (kad k 71 0), .ref (kad k 72 0), .int 0, .ref (kad k 73 0), .ref (kad k 74 0), .int 0, .ref (kad k 75 0), .ref (kad k 76 0), .int 0, .ref (kad k 77 0), .ref (kad k 78 0), .int 0, .ref (kad k 79 0), .ref (kad k 80 0), .null, .null, .null, .int 0, .int 0, .int 0, .int 0, .int 0, .int 0, .int 0, .int 0, .int 0, .int 0, .int 0, .null, .null, .null, .null, .null, .null, .null, .null]))]) FK12_52 wf_X12_116 (by decide +kernel) rfl rfl rfl rfl rfl dX12_init_287 ?_
  refine c_aloadn hx 0 rfl rfl dX12_init_290 ?_
  refine c_sipush hx cs_20000 dX12_init_291 ?_
  refine c_newarr hx (t := 81) (i := 0) (N := 20000) (atype := .int) wac_int (by decide) (by decide) rfl (by decide +kernel) rfl (by decide) (by decide) (hA 33 _ rfl) ⟨Nat.le_of_ble_eq_true rfl, Nat.le_of_ble_eq_true rfl⟩ dX12_init_294 ?_
  refine c_C (C' := (34, 90020)) rfl ?_
  refine c_put hx (ty := (.array .int)) 0 (xs' := [(kad k 12 0, .inr (12, [.int 0, .ref (kad k 48 0), .int 0, .ref (kad k 49 0), .int 0, .ref (kad k 50 0), .ref (kad k 51 0), .ref (kad k 52 0), .ref (kad k 53 0), .ref (kad k 54 0), .int 0, .int 0, .int 0, .int 0, .int 0, .int 0, .int 0, .int (-1), .int 0, .int 0, .int 0, .ref (kad k 55 0), .ref (kad k 56 0), .ref (kad k 57 0), .ref (kad k 58 0), .ref (kad k 59 0), .ref (kad k 60 0), .ref (kad k 61 0), .ref (kad k 62 0), .ref (kad k 63 0), .ref (kad k 64 0), .int 0, .ref (kad k 65 0), .ref (kad k 66 0), .ref (kad k 67 0), .ref (kad k 68 0), .ref (kad k 69 0), .int 0, .ref (kad k 70 0), .ref (kad k 71 0), .ref (kad k 72 0), .int 0, .ref (kad k 73 0), .ref (kad k 74 0), .int 0, .ref (kad k 75 0), .ref (kad k 76 0), .int 0, .ref (kad k 77 0), .ref (kad k 78 0), .int 0, .ref (kad k 79 0), .ref (kad k 80 0), .ref (kad k 81 0), .null, .null, .int 0, .int 0, .int 0, .int 0, .int 0, .int 0, .int 0, .int 0, .int 0, .int 0, .int 0, .null, .null, .null, .null, .null, .null, .null, .null]))]) FK12_53 wf_X12_119 (by decide +kernel) rfl rfl rfl rfl rfl dX12_init_296 ?_
  refine c_aloadn hx 0 rfl rfl dX12_init_299 ?_
  refine c_sipush hx cs_20000 dX12_init_300 ?_
  refine c_newarr hx (t := 82) (i := 0) (N := 20000) (atype := .int) wac_int (by decide) (by decide) rfl (by decide +kernel) rfl (by decide) (by decide) (hA 34 _ rfl) ⟨Nat.le_of_ble_eq_true rfl, Nat.le_of_ble_eq_true rfl⟩ dX12_init_303 ?_
  refine c_C (C' := (35, 110020)) rfl ?_
  refine c_put hx (ty := (.array .int)) 0 (xs' := [(kad k 12 0, .inr (12, [.int 0, .ref (kad k 48 0), .int 0, .ref (kad k 49 0), .int 0, .ref (kad k 50 0), .ref (kad k 51 0), .ref (kad k 52 0), .ref (kad k 53 0), .ref (kad k 54 0), .int 0, .int 0, .int 0, .int 0, .int 0, .int 0, .int 0, .int (-1), .int 0, .int 0, .int 0, .ref (kad k 55 0), .ref (kad k 56 0), .ref (kad k 57 0), .ref (kad k 58 0), .ref (kad k 59 0), .ref (kad k 60 0), .ref (kad k 61 0), .ref (kad k 62 0), .ref (kad k 63 0), .ref (kad k 64 0), .int 0, .ref (kad k 65 0), .ref (kad k 66 0), .ref (kad k 67 0), .ref (kad k 68 0), .ref (kad k 69 0), .int 0, .ref (kad k 70 0), .ref (kad k 71 0), .ref (kad k 72 0), .int 0, .ref (kad k 73 0), .ref (kad k 74 0), .int 0, .ref (kad k 75 0), .ref (kad k 76 0), .int 0, .ref (kad k 77 0), .ref (kad k 78 0), .int 0, .ref (kad k 79 0), .ref (kad k 80 0), .ref (kad k 81 0), .ref (kad k 82 0), .null, .int 0, .int 0, .int 0, .int 0, .int 0, .int 0, .int 0, .int 0, .int 0, .int 0, .int 0, .null, .null, .null, .null, .null, .null, .null, .null]))]) FK12_54 wf_X12_122 (by decide +kernel) rfl rfl rfl rfl rfl dX12_init_305 ?_
  refine c_aloadn hx 0 rfl rfl dX12_init_308 ?_
  refine c_sipush hx cs_20000 dX12_init_309 ?_
  refine c_newarr hx (t := 83) (i := 0) (N := 20000) (atype := .int) wac_int (by decide) (by decide) rfl (by decide +kernel) rfl (by decide) (by decide) (hA 35 _ rfl) ⟨Nat.le_of_ble_eq_true rfl, Nat.le_of_ble_eq_true rfl⟩ dX12_init_312 ?_
  refine c_C (C' := (36, 130020)) rfl ?_
  refine c_put hx (ty := (.array .int)) 0 (xs' := [(kad k 12 0, .inr (12, [.int 0, .ref (kad k 48 0), .int 0, .ref (kad k 49 0), .int 0, .ref (kad k 50 0), .ref (kad k 51 0), .ref (kad k 52 0), .ref (kad k 53 0), .ref (kad k 54 0), .int 0, .int 0, .int 0, .int 0, .int 0, .int 0, .int 0, .int (-1), .int 0, .int 0, .int 0, .ref (kad k 55 0), .ref (kad k 56 0), .ref (kad k 57 0), .ref (kad k 58 0), .ref (kad k 59 0), .ref (kad k 60 0), .ref (kad k 61 0), .ref (kad k 62 0), .ref (kad k 63 0), .ref (kad k 64 0), .int 0, .ref (kad k 65 0), .ref (kad k 66 0), .ref (kad k 67 0), .ref (kad k 68 0), .ref (kad k 69 0), .int 0, .ref (kad k 70 0), .ref (kad k 71 0), .ref (kad k 72 0), .int 0, .ref (kad k 73 0), .ref (kad k 74 0), .int 0, .ref (kad k 75 0), .ref (kad k 76 0), .int 0, .ref (kad k 77 0), .ref (kad k 78 0), .int 0, .ref (kad k 79 0), .ref (kad k 80 0), .ref (kad k 81 0), .ref (kad k 82 0), .ref (kad k 83 0), .int 0, .int 0, .int 0, .int 0, .int 0, .int 0, .int 0, .int 0, .int 0, .int 0, .int 0, .null, .null, .null, .null, .null, .null, .null, .null]))]) FK12_55 wf_X12_125 (by decide +kernel) rfl rfl rfl rfl rfl dX12_init_314 ?_
  refine c_aloadn hx 0 rfl rfl dX12_init_317 ?_
  refine c_bipush hx cb_20 dX12_init_318 ?_
  refine c_newarr hx (t := 84) (i := 0) (N := 20) (atype := .int) wac_int (by decide) (by decide) rfl (by decide +kernel) rfl (by decide) (by decide) (hA 36 _ rfl) ⟨Nat.le_of_ble_eq_true rfl, Nat.le_of_ble_eq_true rfl⟩ dX12_init_320 ?_
  refine c_C (C' := (37, 130040)) rfl ?_
  refine c_put hx (ty := (.array .int)) 0 (xs' := [(kad k 12 0, .inr (12, [.int 0, .ref (kad k 48 0), .int 0, .ref (kad k 49 0), .int 0, .ref (kad k 50 0), .ref (kad k 51 0), .ref (kad k 52 0), .ref (kad k 53 0), .ref (kad k 54 0), .int 0, .int 0, .int 0, .int 0, .int 0, .int 0, .int 0, .int (-1), .int 0, .int 0, .int 0, .ref (kad k 55 0), .ref (kad k 56 0), .ref (kad k 57 0), .ref (kad k 58 0), .ref (kad k 59 0), .ref (kad k 60 0), .ref (kad k 61 0), .ref (kad k 62 0), .ref (kad k 63 0), .ref (kad k 64 0), .int 0, .ref (kad k 65 0), .ref (kad k 66 0), .ref (kad k 67 0), .ref (kad k 68 0), .ref (kad k 69 0), .int 0, .ref (kad k 70 0), .ref (kad k 71 0), .ref (kad k 72 0), .int 0, .ref (kad k 73 0), .ref (kad k 74 0), .int 0, .ref (kad k 75 0), .ref (kad k 76 0), .int 0, .ref (kad k 77 0), .ref (kad k 78 0), .int 0, .ref (kad k 79 0), .ref (kad k 80 0), .ref (kad k 81 0), .ref (kad k 82 0), .ref (kad k 83 0), .int 0, .int 0, .int 0, .int 0, .int 0, .int 0, .int 0, .int 0, .int 0, .int 0, .int 0, .ref (kad k 84 0), .null, .null, .null, .null, .null, .null, .null]))]) FK12_67 wf_X12_128 (by decide +kernel) rfl rfl rfl rfl rfl dX12_init_322 ?_
  refine c_aloadn hx 0 rfl rfl dX12_init_325 ?_
  refine c_bipush hx cb_20 dX12_init_326 ?_
  refine c_newarr hx (t := 85) (i := 0) (N := 20) (atype := .int) wac_int (by decide) (by decide) rfl (by decide +kernel) rfl (by decide) (by decide) (hA 37 _ rfl) ⟨Nat.le_of_ble_eq_true rfl, Nat.le_of_ble_eq_true rfl⟩ dX12_init_328 ?_
  refine c_C (C' := (38, 130060)) rfl ?_
  refine c_put hx (ty := (.array .int)) 0 (xs' := [(kad k 12 0, .inr (12, [.int 0, .ref (kad k 48 0), .int 0, .ref (kad k 49 0), .int 0, .ref (kad k 50 0), .ref (kad k 51 0), .ref (kad k 52 0), .ref (kad k 53 0), .ref (kad k 54 0), .int 0, .int 0, .int 0, .int 0, .int 0, .int 0, .int 0, .int (-1), .int 0, .int 0, .int 0, .ref (kad k 55 0), .ref (kad k 56 0), .ref (kad k 57 0), .ref (kad k 58 0), .ref (kad k 59 0), .ref (kad k 60 0), .ref (kad k 61 0), .ref (kad k 62 0), .ref (kad k 63 0), .ref (kad k 64 0), .int 0, .ref (kad k 65 0), .ref (kad k 66 0), .ref (kad k 67 0), .ref (kad k 68 0), .ref (kad k 69 0), .int 0, .ref (kad k 70 0), .ref (kad k 71 0), .ref (kad k 72 0), .int 0, .ref (kad k 73 0), .ref (kad k 74 0), .int 0, .ref (kad k 75 0), .ref (kad k 76 0), .int 0, .ref (kad k 77 0), .ref (kad k 78 0), .int 0, .ref (kad k 79 0), .ref (kad k 80 0), .ref (kad k 81 0), .ref (kad k 82 0), .ref (kad k 83 0), .int 0, .int 0, .int 0, .int 0, .int 0, .int 0, .int 0, .int 0, .int 0, .int 0, .int 0, .ref (kad k 84 0), .ref (kad k 85 0), .null, .null, .null, .null, .null, .null]))]) FK12_68 wf_X12_131 (by decide +kernel) rfl rfl rfl rfl rfl dX12_init_330 ?_
  refine c_aloadn hx 0 rfl rfl dX12_init_333 ?_
  refine c_bipush hx cb_20 dX12_init_334 ?_
  refine c_newarr hx (t := 86) (i := 0) (N := 20) (atype := .boolean) wac_boolean (by decide) (by decide) rfl (by decide +kernel) rfl (by decide) (by decide) (hA 38 _ rfl) ⟨Nat.le_of_ble_eq_true rfl, Nat.le_of_ble_eq_true rfl⟩ dX12_init_336 ?_
  refine c_C (C' := (39, 130080)) rfl ?_
  refine c_put hx (ty := (.array .boolean)) 0 (xs' := [(kad k 12 0, .inr (12, [.int 0, .ref (kad k 48 0), .int 0, .ref (kad k 49 0), .int 0, .ref (kad k 50 0), .ref (kad k 51 0), .ref (kad k 52 0), .ref (kad k 53 0), .ref (kad k 54 0), .int 0, .int 0, .int 0, .int 0, .int 0, .int 0, .int 0, .int (-1), .int 0, .int 0, .int 0, .ref (kad k 55 0), .ref (kad k 56 0), .ref (kad k 57 0), .ref (kad k 58 0), .ref (kad k 59 0), .ref (kad k 60 0), .ref (kad k 61 0), .ref (kad k 62 0), .ref (kad k 63 0), .ref (kad k 64 0), .int 0, .ref (kad k 65 0), .ref (kad k 66 0), .ref (kad k 67 0), .ref (kad k 68 0), .ref (kad k 69 0), .int 0, .ref (kad k 70 0), .ref (kad k 71 0), .ref (kad k 72 0), .int 0, .ref (kad k 73 0), .ref (kad k 74 0), .int 0, .ref (kad k 75 0), .ref (kad k 76 0), .int 0, .ref (kad k 77 0), .ref (kad k 78 0), .int 0, .ref (kad k 79 0), .ref (kad k 80 0), .ref (kad k 81 0), .ref (kad k 82 0), .ref (kad k 83 0), .int 0, .int 0, .int 0, .int 0, .int 0, .int 0, .int 0, .int 0, .int 0, .int 0, .int 0, .ref (kad k 84 0), .ref (kad k 85 0), .ref (kad k 86 0), .null, .null, .null, .null, .null]))]) FK12_69 wf_X12_134 (by decide +kernel) rfl rfl rfl rfl rfl dX12_init_338 ?_
  refine c_aloadn hx 0 rfl rfl dX12_init_341 ?_
  refine c_iconst hx ci_5 dX12_init_342 ?_
  refine c_newarr hx (t := 87) (i := 0) (N := 5) (atype := .int) wac_int (by decide) (by decide) rfl (by decide +kernel) rfl (by decide) (by decide) (hA 39 _ rfl) ⟨Nat.le_of_ble_eq_true rfl, Nat.le_of_ble_eq_true rfl⟩ dX12_init_343 ?_
  refine c_C (C' := (40, 130085)) rfl ?_
  refine c_put hx (ty := (.array .int)) 0 (xs' := [(kad k 12 0, .inr (12, [.int 0, .ref (kad k 48 0), .int 0, .ref (kad k 49 0), .int 0, .ref (kad k 50 0), .ref (kad k 51 0), .ref (kad k 52 0), .ref (kad k 53 0), .ref (kad k 54 0), .int 0, .int 0, .int 0, .int 0, .int 0, .int 0, .int 0, .int (-1), .int 0, .int 0, .int 0, .ref (kad k 55 0), .ref (kad k 56 0), .ref (kad k 57 0), .ref (kad k 58 0), .ref (kad k 59 0), .ref (kad k 60 0), .ref (kad k 61 0), .ref (kad k 62 0), .ref (kad k 63 0), .ref (kad k 64 0), .int 0, .ref (kad k 65 0), .ref (kad k 66 0), .ref (kad k 67 0), .ref (kad k 68 0), .ref (kad k 69 0), .int 0, .ref (kad k 70 0), .ref (kad k 71 0), .ref (kad k 72 0), .int 0, .ref (kad k 73 0), .ref (kad k 74 0), .int 0, .ref (kad k 75 0), .ref (kad k 76 0), .int 0, .ref (kad k 77 0), .ref (kad k 78 0), .int 0, .ref (kad k 79 0), .ref (kad k 80 0), .ref (kad k 81 0), .ref (kad k 82 0), .ref (kad k 83 0), .int 0, .int 0, .int 0, .int 0, .int 0, .int 0, .int 0, .int 0, .int 0, .int 0, .int 0, .ref (kad k 84 0), .ref (kad k 85 0), .ref (kad k 86 0), .ref (kad k 87 0), .null, .null, .null, .null]))]) FK12_70 wf_X12_137 (by decide +kernel) rfl rfl rfl rfl rfl dX12_init_345 ?_
  refine c_aloadn hx 0 rfl rfl dX12_init_348 ?_
  refine c_iconst hx ci_4 dX12_init_349 ?_
  refine c_newarr hx (t := 88) (i := 0) (N := 4) (atype := .int) wac_int (by decide) (by decide) rfl (by decide +kernel) rfl (by decide) (by decide) (hA 40 _ rfl) ⟨Nat.le_of_ble_eq_true rfl, Nat.le_of_ble_eq_true rfl⟩ dX12_init_350 ?_
  refine c_C (C' := (41, 130089)) rfl ?_
  refine c_put hx (ty := (.array .int)) 0 (xs' := [(kad k 12 0, .inr (12, [.int 0, .ref (kad k 48 0), .int 0, .ref (kad k 49 0), .int 0, .ref (kad k 50 0), .ref (kad k 51 0), .ref (kad k 52 0), .ref (kad k 53 0), .ref (kad k 54 0), .int 0, .int 0, .int 0, .int 0, .int 0, .int 0, .int 0, .int (-1), .int 0, .int 0, .int 0, .ref (kad k 55 0), .ref (kad k 56 0), .ref (kad k 57 0), .ref (kad k 58 0), .ref (kad k 59 0), .ref (kad k 60 0), .ref (kad k 61 0), .ref (kad k 62 0), .ref (kad k 63 0), .ref (kad k 64 0), .int 0, .ref (kad k 65 0), .ref (kad k 66 0), .ref (kad k 67 0), .ref (kad k 68 0), .ref (kad k 69 0), .int 0, .ref (kad k 70 0), .ref (kad k 71 0), .ref (kad k 72 0), .int 0, .ref (kad k 73 0), .ref (kad k 74 0), .int 0, .ref (kad k 75 0), .ref (kad k 76 0), .int 0, .ref (kad k 77 0), .ref (kad k 78 0), .int 0, .ref (kad k 79 0), .ref (kad k 80 0), .ref (kad k 81 0), .ref (kad k 82 0), .ref (kad k 83 0), .int 0, .int 0, .int 0, .int 0, .int 0, .int 0, .int 0, .int 0, .int 0, .int 0, .int 0, .ref (kad k 84 0), .ref (kad k 85 0), .ref (kad k 86 0), .ref (kad k 87 0), .ref (kad k 88 0), .null, .null, .null]))]) FK12_71 wf_X12_140 (by decide +kernel) rfl rfl rfl rfl rfl dX12_init_352 ?_
  refine c_aloadn hx 0 rfl rfl dX12_init_355 ?_
  refine c_bipush hx cb_15 dX12_init_356 ?_
  refine c_newarr hx (t := 89) (i := 0) (N := 15) (atype := .int) wac_int (by decide) (by decide) rfl (by decide +kernel) rfl (by decide) (by decide) (hA 41 _ rfl) ⟨Nat.le_of_ble_eq_true rfl, Nat.le_of_ble_eq_true rfl⟩ dX12_init_358 ?_
  refine c_C (C' := (42, 130104)) rfl ?_
  refine c_put hx (ty := (.array .int)) 0 (xs' := [(kad k 12 0, .inr (12, [.int 0, .ref (kad k 48 0), .int 0, .ref (kad k 49 0), .int 0, .ref (kad k 50 0), .ref (kad k 51 0), .ref (kad k 52 0), .ref (kad k 53 0), .ref (kad k 54 0), .int 0, .int 0, .int 0, .int 0, .int 0, .int 0, .int 0, .int (-1), .int 0, .int 0, .int 0, .ref (kad k 55 0), .ref (kad k 56 0), .ref (kad k 57 0), .ref (kad k 58 0), .ref (kad k 59 0), .ref (kad k 60 0), .ref (kad k 61 0), .ref (kad k 62 0), .ref (kad k 63 0), .ref (kad k 64 0), .int 0, .ref (kad k 65 0), .ref (kad k 66 0), .ref (kad k 67 0), .ref (kad k 68 0), .ref (kad k 69 0), .int 0, .ref (kad k 70 0), .ref (kad k 71 0), .ref (kad k 72 0), .int 0, .ref (kad k 73 0), .ref (kad k 74 0), .int 0, .ref (kad k 75 0), .ref (kad k 76 0), .int 0, .ref (kad k 77 0), .ref (kad k 78 0), .int 0, .ref (kad k 79 0), .ref (kad k 80 0), .ref (kad k 81 0), .ref (kad k 82 0), .ref (kad k 83 0), .int 0, .int 0, .int 0, .int 0, .int 0, .int 0, .int 0, .int 0, .int 0, .int 0, .int 0, .ref (kad k 84 0), .ref (kad k 85 0), .ref (kad k 86 0), .ref (kad k 87 0), .ref (kad k 88 0), .ref (kad k 89 0), .null, .null]))]) FK12_72 wf_X12_143 (by decide +kernel) rfl rfl rfl rfl rfl dX12_init_360 ?_
  refine c_aloadn hx 0 rfl rfl dX12_init_363 ?_
  refine c_iconst hx ci_3 dX12_init_364 ?_
  refine c_newarr hx (t := 90) (i := 0) (N := 3) (atype := .boolean) wac_boolean (by decide) (by decide) rfl (by decide +kernel) rfl (by decide) (by decide) (hA 42 _ rfl) ⟨Nat.le_of_ble_eq_true rfl, Nat.le_of_ble_eq_true rfl⟩ dX12_init_365 ?_
  refine c_C (C' := (43, 130107)) rfl ?_
  refine c_put hx (ty := (.array .boolean)) 0 (xs' := [(kad k 12 0, .inr (12, [.int 0, .ref (kad k 48 0), .int 0, .ref (kad k 49 0), .int 0, .ref (kad k 50 0), .ref (kad k 51 0), .ref (kad k 52 0), .ref (kad k 53 0), .ref (kad k 54 0), .int 0, .int 0, .int 0, .int 0, .int 0, .int 0, .int 0, .int (-1), .int 0, .int 0, .int 0, .ref (kad k 55 0), .ref (kad k 56 0), .ref (kad k 57 0), .ref (kad k 58 0), .ref (kad k 59 0), .ref (kad k 60 0), .ref (kad k 61 0), .ref (kad k 62 0), .ref (kad k 63 0), .ref (kad k 64 0), .int 0, .ref (kad k 65 0), .ref (kad k 66 0), .ref (kad k 67 0), .ref (kad k 68 0), .ref (kad k 69 0), .int 0, .ref (kad k 70 0), .ref (kad k 71 0), .ref (kad k 72 0), .int 0, .ref (kad k 73 0), .ref (kad k 74 0), .int 0, .ref (kad k 75 0), .ref (kad k 76 0), .int 0, .ref (kad k 77 0), .ref (kad k 78 0), .int 0, .ref (kad k 79 0), .ref (kad k 80 0), .ref (kad k 81 0), .ref (kad k 82 0), .ref (kad k 83 0), .int 0, .int 0, .int 0, .int 0, .int 0, .int 0, .int 0, .int 0, .int 0, .int 0, .int 0, .ref (kad k 84 0), .ref (kad k 85 0), .ref (kad k 86 0), .ref (kad k 87 0), .ref (kad k 88 0), .ref (kad k 89 0), .ref (kad k 90 0), .null]))]) FK12_73 wf_X12_146 (by decide +kernel) rfl rfl rfl rfl rfl dX12_init_367 ?_
  refine c_aloadn hx 0 rfl rfl dX12_init_370 ?_
  refine c_bipush hx cb_42 dX12_init_371 ?_
  refine c_newarr hx (t := 91) (i := 0) (N := 42) (atype := .int) wac_int (by decide) (by decide) rfl (by decide +kernel) rfl (by decide) (by decide) (hA 43 _ rfl) ⟨Nat.le_of_ble_eq_true rfl, Nat.le_of_ble_eq_true rfl⟩ dX12_init_373 ?_
  refine c_C (C' := (44, 130149)) rfl ?_
  refine c_put hx (ty := (.array .int)) 0 (xs' := [(kad k 12 0, .inr (12, [.int 0, .ref (kad k 48 0), .int 0, .ref (kad k 49 0), .int 0, .ref (kad k 50 0), .ref (kad k 51 0), .ref (kad k 52 0), .ref (kad k 53 0), .ref (kad k 54 0), .int 0, .int 0, .int 0, .int 0, .int 0, .int 0, .int 0, .int (-1), .int 0, .int 0, .int 0, .ref (kad k 55 0), .ref (kad k 56 0), .ref (kad k 57 0), .ref (kad k 58 0), .ref (kad k 59 0), .ref (kad k 60 0), .ref (kad k 61 0), .ref (kad k 62 0), .ref (kad k 63 0), .ref (kad k 64 0), .int 0, .ref (kad k 65 0), .ref (kad k 66 0), .ref (kad k 67 0), .ref (kad k 68 0), .ref (kad k 69 0), .int 0, .ref (kad k 70 0), .ref (kad k 71 0), .ref (kad k 72 0), .int 0, .ref (kad k 73 0), .ref (kad k 74 0), .int 0, .ref (kad k 75 0), .ref (kad k 76 0), .int 0, .ref (kad k 77 0), .ref (kad k 78 0), .int 0, .ref (kad k 79 0), .ref (kad k 80 0), .ref (kad k 81 0), .ref (kad k 82 0), .ref (kad k 83 0), .int 0, .int 0, .int 0, .int 0, .int 0, .int 0, .int 0, .int 0, .int 0, .int 0, .int 0, .ref (kad k 84 0), .ref (kad k 85 0), .ref (kad k 86 0), .ref (kad k 87 0), .ref (kad k 88 0), .ref (kad k 89 0), .ref (kad k 90 0), .ref (kad k 91 0)]))]) FK12_74 wf_X12_149 (by decide +kernel) rfl rfl rfl rfl rfl dX12_init_375 ?_
  refine c_absZ (c := 12) (i := 0) (us := [(17, (-1))]) (fs := [.int 0, .ref (kad k 48 0), .int 0, .ref (kad k 49 0), .int 0, .ref (kad k 50 0), .ref (kad k 51 0), .ref (kad k 52 0), .ref (kad k 53 0), .ref (kad k 54 0), .int 0, .int 0, .int 0, .int 0, .int 0, .int 0, .int 0, .int (-1), .int 0, .int 0, .int 0, .ref (kad k 55 0), .ref (kad k 56 0), .ref (kad k 57 0), .ref (kad k 58 0), .ref (kad k 59 0), .ref (kad k 60 0), .ref (kad k 61 0), .ref (kad k 62 0), .ref (kad k 63 0), .ref (kad k 64 0), .int 0, .ref (kad k 65 0), .ref (kad k 66 0), .ref (kad k 67 0), .ref (kad k 68 0), .ref (kad k 69 0), .int 0, .ref (kad k 70 0), .ref (kad k 71 0), .ref (kad k 72 0), .int 0, .ref (kad k 73 0), .ref (kad k 74 0), .int 0, .ref (kad k 75 0), .ref (kad k 76 0), .int 0, .ref (kad k 77 0), .ref (kad k 78 0), .int 0, .ref (kad k 79 0), .ref (kad k 80 0), .ref (kad k 81 0), .ref (kad k 82 0), .ref (kad k 83 0), .int 0, .int 0, .int 0, .int 0, .int 0, .int 0, .int 0, .int 0, .int 0, .int 0, .int 0, .ref (kad k 84 0), .ref (kad k 85 0), .ref (kad k 86 0), .ref (kad k 87 0), .ref (kad k 88 0), .ref (kad k 89 0), .ref (kad k 90 0), .ref (kad k 91 0)]) (xs0 := []) (by decide) rfl rfl (fun j h => absurd h (getD_ne (by decide) j)) ?_
  exact c_toW hx (hx.2.2.2.2.2.2.2.2.2.1 rfl) hk (fun hx' => r_sub [0] rfl (sX12_init (k := kL k (lX12 L)) hk List.mem_cons_self hx' hf))
set_option maxRecDepth 20000 in
set_option maxHeartbeats 4000000 in
theorem mX11_init {l : Launch} {k : Kx} {F : Nat} {L : List (Nat × Nat)} {μ : Mm} {m1 : Mm} (hk1 : kok (kL (kR k [(kad k 11 0, .inr (11, [.ref (kad k 7 0), .null, .null, .null, .null, .null, .null, .null, .null, .null, .null, .null]))]) (lX8_0 (lX7 L)))) (h1 : fX8_init F 0 (iX8_0 (iX7 (μ))) = some m1) {m2 : Mm} (hk2 : kok (kL (kR k [(kad k 11 0, .inr (11, [.ref (kad k 7 0), .null, .ref (kad k 8 0), .null, .null, .null, .null, .null, .null, .null, .null, .null]))]) (lX8_1 (lX8_0 (lX7 L))))) (h2 : fX8_init F 1 (iX8_1 (m1)) = some m2) : MC l k 4 yX11_init bX11_init 1 [.ref (kad k 11 0)] L (nX11) (162, 6018) μ [(kad k 11 0, .inr (11, [.null, .null, .null, .null, .null, .null, .null, .null, .null, .null, .null, .null]))] (lX11 L) (iX11 m2) := by
  refine MC.of (lv := [(0, .ref (kad k 11 0))]) (plainFor_of_name (by decide)) rfl (Nat.le_of_ble_eq_true rfl) rfl (fun z hl hx hA => ?_)
  subst hl
  have hx : Oc true z k bX11_init 1 "RopeDance" 4 (162, 6018) := hx
  refine c_aloadn hx 0 rfl rfl dX11_init_0 ?_
  refine c_objInit hx woi_X11 woin woic (Nat.le_of_ble_eq_true rfl) (Nat.le_of_ble_eq_true rfl) dX11_init_1 ?_
  refine c_aloadn hx 0 rfl rfl dX11_init_4 ?_
  refine c_new hx (c := 7) (i := 0) (TT := T7) (ty := t7) (fs := [.int 0, .int 0, .int 0, .int 0, .int 0, .long 0, .null, .null, .null, .null, .null]) rfl (xgu iw7) tok7 wcl_X11_7 win_X7 wn_X7 (hA 0 _ rfl) dv7 ⟨Nat.le_of_ble_eq_true rfl, Nat.le_of_ble_eq_true rfl⟩ dX11_init_5 ?_
  refine c_C (C' := (1, 11)) rfl ?_
  refine c_dup hx rfl dX11_init_8 ?_
  refine c_callI hx (As := []) (rest := [.ref (kad k 7 0), .ref (kad k 11 0)]) (xs0 := [(kad k 11 0, .inr (11, [.null, .null, .null, .null, .null, .null, .null, .null, .null, .null, .null, .null]))]) (N := nX7) (L' := (lX7 L)) MK_X7_init wi_X7_init wm_X11_9 rfl ⟨Nat.le_of_ble_eq_true rfl, Nat.le_of_ble_eq_true rfl⟩ (mX7_init (k := kR k [(kad k 11 0, .inr (11, [.null, .null, .null, .null, .null, .null, .null, .null, .null, .null, .null, .null]))])) rfl (AL_sub hA 1 5 rfl) (hX7) (Nat.le_of_ble_eq_true rfl) rfl rfl (Nat.le_of_ble_eq_true rfl) dX11_init_9 ?_
  refine c_C (C' := (6, 3615)) rfl ?_
  refine c_put hx (ty := (.object "RopeDance$Tape")) 0 (xs' := [(kad k 11 0, .inr (11, [.ref (kad k 7 0), .null, .null, .null, .null, .null, .null, .null, .null, .null, .null, .null]))]) FK11_0 wf_X11_10 (by decide +kernel) rfl rfl rfl rfl rfl dX11_init_12 ?_
  refine c_aloadn hx 0 rfl rfl dX11_init_15 ?_
  refine c_new hx (c := 8) (i := 0) (TT := T8) (ty := t8) (fs := [.int 0, .int 0, .int 0, .null, .null, .int 0, .null, .int 0, .null, .null, .null, .null, .null]) rfl (xgu iw8) tok8 wcl_X11_16 win_X8 wn_X8 (hA 6 _ rfl) dv8 ⟨Nat.le_of_ble_eq_true rfl, Nat.le_of_ble_eq_true rfl⟩ dX11_init_16 ?_
  refine c_C (C' := (7, 3628)) rfl ?_
  refine c_dup hx rfl dX11_init_19 ?_
  refine c_callI hx (As := []) (rest := [.ref (kad k 8 0), .ref (kad k 11 0)]) (xs0 := [(kad k 11 0, .inr (11, [.ref (kad k 7 0), .null, .null, .null, .null, .null, .null, .null, .null, .null, .null, .null]))]) (N := nX8_0) (L' := (lX8_0 (lX7 L))) MK_X8_init wi_X8_init wm_X11_18 rfl ⟨Nat.le_of_ble_eq_true rfl, Nat.le_of_ble_eq_true rfl⟩ (mX8_0_init (k := kR k [(kad k 11 0, .inr (11, [.ref (kad k 7 0), .null, .null, .null, .null, .null, .null, .null, .null, .null, .null, .null]))]) hk1 h1) rfl (AL_sub hA 7 44 rfl) (hX8_0) (Nat.le_of_ble_eq_true rfl) rfl rfl (Nat.le_of_ble_eq_true rfl) dX11_init_20 ?_
  refine c_C (C' := (51, 4319)) rfl ?_
  refine c_put hx (ty := (.object "RopeDance$Text")) 0 (xs' := [(kad k 11 0, .inr (11, [.ref (kad k 7 0), .null, .ref (kad k 8 0), .null, .null, .null, .null, .null, .null, .null, .null, .null]))]) FK11_2 wf_X11_19 (by decide +kernel) rfl rfl rfl rfl rfl dX11_init_23 ?_
  refine c_aloadn hx 0 rfl rfl dX11_init_26 ?_
  refine c_new hx (c := 8) (i := 1) (TT := T8) (ty := t8) (fs := [.int 0, .int 0, .int 0, .null, .null, .int 0, .null, .int 0, .null, .null, .null, .null, .null]) rfl (xgu iw8) tok8 wcl_X11_16 win_X8 wn_X8 (hA 51 _ rfl) dv8 ⟨Nat.le_of_ble_eq_true rfl, Nat.le_of_ble_eq_true rfl⟩ dX11_init_27 ?_
  refine c_C (C' := (52, 4332)) rfl ?_
  refine c_dup hx rfl dX11_init_30 ?_
  refine c_callI hx (As := []) (rest := [.ref (kad k 8 1), .ref (kad k 11 0)]) (xs0 := [(kad k 11 0, .inr (11, [.ref (kad k 7 0), .null, .ref (kad k 8 0), .null, .null, .null, .null, .null, .null, .null, .null, .null]))]) (N := nX8_1) (L' := (lX8_1 (lX8_0 (lX7 L)))) MK_X8_init wi_X8_init wm_X11_18 rfl ⟨Nat.le_of_ble_eq_true rfl, Nat.le_of_ble_eq_true rfl⟩ (mX8_1_init (k := kR k [(kad k 11 0, .inr (11, [.ref (kad k 7 0), .null, .ref (kad k 8 0), .null, .null, .null, .null, .null, .null, .null, .null, .null]))]) hk2 h2) rfl (AL_sub hA 52 44 rfl) (hX8_1) (Nat.le_of_ble_eq_true rfl) rfl rfl (Nat.le_of_ble_eq_true rfl) dX11_init_31 ?_
  refine c_C (C' := (96, 5023)) rfl ?_
  refine c_put hx (ty := (.object "RopeDance$Text")) 0 (xs' := [(kad k 11 0, .inr (11, [.ref (kad k 7 0), .null, .ref (kad k 8 0), .ref (kad k 8 1), .null, .null, .null, .null, .null, .null, .null, .null]))]) FK11_3 wf_X11_23 (by decide +kernel) rfl rfl rfl rfl rfl dX11_init_34 ?_
  refine c_aloadn hx 0 rfl rfl dX11_init_37 ?_
  refine c_new hx (c := 2) (i := 0) (TT := T2) (ty := t2) (fs := [.int 0, .int 0, .null, .null, .int 0, .int 0, .null, .int 0, .int 0, .null]) rfl (xgu iw2) tok2 wcl_X11_26 win_X2 wn_X2 (hA 96 _ rfl) dv2 ⟨Nat.le_of_ble_eq_true rfl, Nat.le_of_ble_eq_true rfl⟩ dX11_init_38 ?_
  refine c_C (C' := (97, 5033)) rfl ?_
  refine c_dup hx rfl dX11_init_41 ?_
  refine c_aloadn hx 0 rfl rfl dX11_init_42 ?_
  refine c_get hx 0 FK11_0 wf_X11_10 rfl rfl dX11_init_43 ?_
  refine c_aloadn hx 0 rfl rfl dX11_init_46 ?_
  refine c_get hx 0 FK11_3 wf_X11_23 rfl rfl dX11_init_47 ?_
  refine c_callI hx (As := [.ref (kad k 7 0), .ref (kad k 8 1)]) (rest := [.ref (kad k 2 0), .ref (kad k 11 0)]) (xs0 := [(kad k 11 0, .inr (11, [.ref (kad k 7 0), .null, .ref (kad k 8 0), .ref (kad k 8 1), .null, .null, .null, .null, .null, .null, .null, .null]))]) (N := nX2) (L' := (lX2 (lX8_1 (lX8_0 (lX7 L))))) MK_X2_init wi_X2_init wm_X11_28 rfl ⟨Nat.le_of_ble_eq_true rfl, Nat.le_of_ble_eq_true rfl⟩ (mX2_init (k := kR k [(kad k 11 0, .inr (11, [.ref (kad k 7 0), .null, .ref (kad k 8 0), .ref (kad k 8 1), .null, .null, .null, .null, .null, .null, .null, .null]))])) rfl (AL_sub hA 97 2 rfl) (hX2) (Nat.le_of_ble_eq_true rfl) rfl rfl (Nat.le_of_ble_eq_true rfl) dX11_init_50 ?_
  refine c_C (C' := (99, 5069)) rfl ?_
  refine c_put hx (ty := (.object "RopeDance$Reader")) 0 (xs' := [(kad k 11 0, .inr (11, [.ref (kad k 7 0), .ref (kad k 2 0), .ref (kad k 8 0), .ref (kad k 8 1), .null, .null, .null, .null, .null, .null, .null, .null]))]) FK11_1 wf_X11_31 (by decide +kernel) rfl rfl rfl rfl rfl dX11_init_53 ?_
  refine c_aloadn hx 0 rfl rfl dX11_init_56 ?_
  refine c_new hx (c := 0) (i := 0) (TT := T0) (ty := t0) (fs := [.null, .int 0, .int 0]) rfl (xgu iw0) tok0 wcl_X11_35 win_X0 wn_X0 (hA 99 _ rfl) dv0 ⟨Nat.le_of_ble_eq_true rfl, Nat.le_of_ble_eq_true rfl⟩ dX11_init_57 ?_
  refine c_C (C' := (100, 5072)) rfl ?_
  refine c_dup hx rfl dX11_init_60 ?_
  refine c_callI hx (As := []) (rest := [.ref (kad k 0 0), .ref (kad k 11 0)]) (xs0 := [(kad k 11 0, .inr (11, [.ref (kad k 7 0), .ref (kad k 2 0), .ref (kad k 8 0), .ref (kad k 8 1), .null, .null, .null, .null, .null, .null, .null, .null]))]) (N := nX0) (L' := (lX0 (lX2 (lX8_1 (lX8_0 (lX7 L)))))) MK_X0_init wi_X0_init wm_X11_37 rfl ⟨Nat.le_of_ble_eq_true rfl, Nat.le_of_ble_eq_true rfl⟩ (mX0_init (k := kR k [(kad k 11 0, .inr (11, [.ref (kad k 7 0), .ref (kad k 2 0), .ref (kad k 8 0), .ref (kad k 8 1), .null, .null, .null, .null, .null, .null, .null, .null]))])) rfl (AL_sub hA 100 5 rfl) (hX0) (Nat.le_of_ble_eq_true rfl) rfl rfl (Nat.le_of_ble_eq_true rfl) dX11_init_61 ?_
  refine c_C (C' := (105, 5092)) rfl ?_
  refine c_put hx (ty := (.object "RopeDance$Evening")) 0 (xs' := [(kad k 11 0, .inr (11, [.ref (kad k 7 0), .ref (kad k 2 0), .ref (kad k 8 0), .ref (kad k 8 1), .ref (kad k 0 0), .null, .null, .null, .null, .null, .null, .null]))]) FK11_4 wf_X11_38 (by decide +kernel) rfl rfl rfl rfl rfl dX11_init_64 ?_
  refine c_aloadn hx 0 rfl rfl dX11_init_67 ?_
  refine c_new hx (c := 1) (i := 0) (TT := T1) (ty := t1) (fs := [.int 0, .int 0, .null, .null, .null]) rfl (xgu iw1) tok1 wcl_X11_42 win_X1 wn_X1 (hA 105 _ rfl) dv1 ⟨Nat.le_of_ble_eq_true rfl, Nat.le_of_ble_eq_true rfl⟩ dX11_init_68 ?_
  refine c_C (C' := (106, 5097)) rfl ?_
  refine c_dup hx rfl dX11_init_71 ?_
  refine c_callI hx (As := []) (rest := [.ref (kad k 1 0), .ref (kad k 11 0)]) (xs0 := [(kad k 11 0, .inr (11, [.ref (kad k 7 0), .ref (kad k 2 0), .ref (kad k 8 0), .ref (kad k 8 1), .ref (kad k 0 0), .null, .null, .null, .null, .null, .null, .null]))]) (N := nX1) (L' := (lX1 (lX0 (lX2 (lX8_1 (lX8_0 (lX7 L))))))) MK_X1_init wi_X1_init wm_X11_44 rfl ⟨Nat.le_of_ble_eq_true rfl, Nat.le_of_ble_eq_true rfl⟩ (mX1_init (k := kR k [(kad k 11 0, .inr (11, [.ref (kad k 7 0), .ref (kad k 2 0), .ref (kad k 8 0), .ref (kad k 8 1), .ref (kad k 0 0), .null, .null, .null, .null, .null, .null, .null]))])) rfl (AL_sub hA 106 46 rfl) (hX1) (Nat.le_of_ble_eq_true rfl) rfl rfl (Nat.le_of_ble_eq_true rfl) dX11_init_72 ?_
  refine c_C (C' := (152, 5917)) rfl ?_
  refine c_put hx (ty := (.object "RopeDance$Memory")) 0 (xs' := [(kad k 11 0, .inr (11, [.ref (kad k 7 0), .ref (kad k 2 0), .ref (kad k 8 0), .ref (kad k 8 1), .ref (kad k 0 0), .ref (kad k 1 0), .null, .null, .null, .null, .null, .null]))]) FK11_5 wf_X11_45 (by decide +kernel) rfl rfl rfl rfl rfl dX11_init_75 ?_
  refine c_aloadn hx 0 rfl rfl dX11_init_78 ?_
  refine c_new hx (c := 9) (i := 0) (TT := T9) (ty := t9) (fs := [.int 0, .int 0, .int 0, .null, .null, .null, .null, .null, .null]) rfl (xgu iw9) tok9 wcl_X11_49 win_X9 wn_X9 (hA 152 _ rfl) dv9 ⟨Nat.le_of_ble_eq_true rfl, Nat.le_of_ble_eq_true rfl⟩ dX11_init_79 ?_
  refine c_C (C' := (153, 5926)) rfl ?_
  refine c_dup hx rfl dX11_init_82 ?_
  refine c_callI hx (As := []) (rest := [.ref (kad k 9 0), .ref (kad k 11 0)]) (xs0 := [(kad k 11 0, .inr (11, [.ref (kad k 7 0), .ref (kad k 2 0), .ref (kad k 8 0), .ref (kad k 8 1), .ref (kad k 0 0), .ref (kad k 1 0), .null, .null, .null, .null, .null, .null]))]) (N := nX9) (L' := (lX9 (lX1 (lX0 (lX2 (lX8_1 (lX8_0 (lX7 L)))))))) MK_X9_init wi_X9_init wm_X11_51 rfl ⟨Nat.le_of_ble_eq_true rfl, Nat.le_of_ble_eq_true rfl⟩ (mX9_init (k := kR k [(kad k 11 0, .inr (11, [.ref (kad k 7 0), .ref (kad k 2 0), .ref (kad k 8 0), .ref (kad k 8 1), .ref (kad k 0 0), .ref (kad k 1 0), .null, .null, .null, .null, .null, .null]))])) rfl (AL_sub hA 153 6 rfl) (hX9) (Nat.le_of_ble_eq_true rfl) rfl rfl (Nat.le_of_ble_eq_true rfl) dX11_init_83 ?_
  refine c_C (C' := (159, 6006)) rfl ?_
  refine c_put hx (ty := (.object "RopeDance$Told")) 0 (xs' := [(kad k 11 0, .inr (11, [.ref (kad k 7 0), .ref (kad k 2 0), .ref (kad k 8 0), .ref (kad k 8 1), .ref (kad k 0 0), .ref (kad k 1 0), .ref (kad k 9 0), .null, .null, .null, .null, .null]))]) FK11_6 wf_X11_52 (by decide +kernel) rfl rfl rfl rfl rfl dX11_init_86 ?_
  refine c_aloadn hx 0 rfl rfl dX11_init_89 ?_
  refine c_new hx (c := 5) (i := 4) (TT := T5) (ty := t5) (fs := [.int 0, .int 0, .int 0, .int 0]) rfl (xgu iw5) tok5 wcl_X11_56 win_X5 wn_X5 (hA 159 _ rfl) dv5 ⟨Nat.le_of_ble_eq_true rfl, Nat.le_of_ble_eq_true rfl⟩ dX11_init_90 ?_
  refine c_C (C' := (160, 6010)) rfl ?_
  refine c_dup hx rfl dX11_init_93 ?_
  refine c_callI hx (As := []) (rest := [.ref (kad k 5 4), .ref (kad k 11 0)]) (xs0 := [(kad k 11 0, .inr (11, [.ref (kad k 7 0), .ref (kad k 2 0), .ref (kad k 8 0), .ref (kad k 8 1), .ref (kad k 0 0), .ref (kad k 1 0), .ref (kad k 9 0), .null, .null, .null, .null, .null]))]) (N := nX5 4) (L' := (lX5 4 (lX9 (lX1 (lX0 (lX2 (lX8_1 (lX8_0 (lX7 L))))))))) MK_X5_init wi_X5_init wm_X11_58 rfl ⟨Nat.le_of_ble_eq_true rfl, Nat.le_of_ble_eq_true rfl⟩ (mX5_init (k := kR k [(kad k 11 0, .inr (11, [.ref (kad k 7 0), .ref (kad k 2 0), .ref (kad k 8 0), .ref (kad k 8 1), .ref (kad k 0 0), .ref (kad k 1 0), .ref (kad k 9 0), .null, .null, .null, .null, .null]))]) (i := 4)) rfl (AL_sub hA 160 0 rfl) (hX5) (Nat.le_of_ble_eq_true rfl) rfl rfl (Nat.le_of_ble_eq_true rfl) dX11_init_94 ?_
  refine c_C (C' := (160, 6010)) rfl ?_
  refine c_put hx (ty := (.object "RopeDance$Square")) 0 (xs' := [(kad k 11 0, .inr (11, [.ref (kad k 7 0), .ref (kad k 2 0), .ref (kad k 8 0), .ref (kad k 8 1), .ref (kad k 0 0), .ref (kad k 1 0), .ref (kad k 9 0), .ref (kad k 5 4), .null, .null, .null, .null]))]) FK11_7 wf_X11_59 (by decide +kernel) rfl rfl rfl rfl rfl dX11_init_97 ?_
  refine c_aloadn hx 0 rfl rfl dX11_init_100 ?_
  refine c_new hx (c := 6) (i := 18) (TT := T6) (ty := t6) (fs := [.int 0, .int 0, .int 0, .int 0]) rfl (xgu iw6) tok6 wcl_X11_63 win_X6 wn_X6 (hA 160 _ rfl) dv6 ⟨Nat.le_of_ble_eq_true rfl, Nat.le_of_ble_eq_true rfl⟩ dX11_init_101 ?_
  refine c_C (C' := (161, 6014)) rfl ?_
  refine c_dup hx rfl dX11_init_104 ?_
  refine c_callI hx (As := []) (rest := [.ref (kad k 6 18), .ref (kad k 11 0)]) (xs0 := [(kad k 11 0, .inr (11, [.ref (kad k 7 0), .ref (kad k 2 0), .ref (kad k 8 0), .ref (kad k 8 1), .ref (kad k 0 0), .ref (kad k 1 0), .ref (kad k 9 0), .ref (kad k 5 4), .null, .null, .null, .null]))]) (N := nX6 18) (L' := (lX6 18 (lX5 4 (lX9 (lX1 (lX0 (lX2 (lX8_1 (lX8_0 (lX7 L)))))))))) MK_X6_init wi_X6_init wm_X11_65 rfl ⟨Nat.le_of_ble_eq_true rfl, Nat.le_of_ble_eq_true rfl⟩ (mX6_init (k := kR k [(kad k 11 0, .inr (11, [.ref (kad k 7 0), .ref (kad k 2 0), .ref (kad k 8 0), .ref (kad k 8 1), .ref (kad k 0 0), .ref (kad k 1 0), .ref (kad k 9 0), .ref (kad k 5 4), .null, .null, .null, .null]))]) (i := 18)) rfl (AL_sub hA 161 0 rfl) (hX6) (Nat.le_of_ble_eq_true rfl) rfl rfl (Nat.le_of_ble_eq_true rfl) dX11_init_105 ?_
  refine c_C (C' := (161, 6014)) rfl ?_
  refine c_put hx (ty := (.object "RopeDance$Table")) 0 (xs' := [(kad k 11 0, .inr (11, [.ref (kad k 7 0), .ref (kad k 2 0), .ref (kad k 8 0), .ref (kad k 8 1), .ref (kad k 0 0), .ref (kad k 1 0), .ref (kad k 9 0), .ref (kad k 5 4), .ref (kad k 6 18), .null, .null, .null]))]) FK11_8 wf_X11_66 (by decide +kernel) rfl rfl rfl rfl rfl dX11_init_108 ?_
  refine c_aloadn hx 0 rfl rfl dX11_init_111 ?_
  refine c_new hx (c := 6) (i := 19) (TT := T6) (ty := t6) (fs := [.int 0, .int 0, .int 0, .int 0]) rfl (xgu iw6) tok6 wcl_X11_63 win_X6 wn_X6 (hA 161 _ rfl) dv6 ⟨Nat.le_of_ble_eq_true rfl, Nat.le_of_ble_eq_true rfl⟩ dX11_init_112 ?_
  refine c_C (C' := (162, 6018)) rfl ?_
  refine c_dup hx rfl dX11_init_115 ?_
  refine c_callI hx (As := []) (rest := [.ref (kad k 6 19), .ref (kad k 11 0)]) (xs0 := [(kad k 11 0, .inr (11, [.ref (kad k 7 0), .ref (kad k 2 0), .ref (kad k 8 0), .ref (kad k 8 1), .ref (kad k 0 0), .ref (kad k 1 0), .ref (kad k 9 0), .ref (kad k 5 4), .ref (kad k 6 18), .null, .null, .null]))]) (N := nX6 19) (L' := (lX6 19 (lX6 18 (lX5 4 (lX9 (lX1 (lX0 (lX2 (lX8_1 (lX8_0 (lX7 L))))))))))) MK_X6_init wi_X6_init wm_X11_65 rfl ⟨Nat.le_of_ble_eq_true rfl, Nat.le_of_ble_eq_true rfl⟩ (mX6_init (k := kR k [(kad k 11 0, .inr (11, [.ref (kad k 7 0), .ref (kad k 2 0), .ref (kad k 8 0), .ref (kad k 8 1), .ref (kad k 0 0), .ref (kad k 1 0), .ref (kad k 9 0), .ref (kad k 5 4), .ref (kad k 6 18), .null, .null, .null]))]) (i := 19)) rfl (AL_sub hA 162 0 rfl) (hX6) (Nat.le_of_ble_eq_true rfl) rfl rfl (Nat.le_of_ble_eq_true rfl) dX11_init_116 ?_
  refine c_C (C' := (162, 6018)) rfl ?_
  refine c_put hx (ty := (.object "RopeDance$Table")) 0 (xs' := [(kad k 11 0, .inr (11, [.ref (kad k 7 0), .ref (kad k 2 0), .ref (kad k 8 0), .ref (kad k 8 1), .ref (kad k 0 0), .ref (kad k 1 0), .ref (kad k 9 0), .ref (kad k 5 4), .ref (kad k 6 18), .ref (kad k 6 19), .null, .null]))]) FK11_9 wf_X11_70 (by decide +kernel) rfl rfl rfl rfl rfl dX11_init_119 ?_
  refine c_absZ (c := 11) (i := 0) (us := [(3, 1)]) (fs := [.ref (kad k 7 0), .ref (kad k 2 0), .ref (kad k 8 0), .ref (kad k 8 1), .ref (kad k 0 0), .ref (kad k 1 0), .ref (kad k 9 0), .ref (kad k 5 4), .ref (kad k 6 18), .ref (kad k 6 19), .null, .null]) (xs0 := []) (by decide) rfl rfl (fun j h => if_neg (fun e => by subst e; exact absurd (show (3 : Nat) = 4 from h) (by decide))) ?_
  exact c_vret hx dX11_init_122
