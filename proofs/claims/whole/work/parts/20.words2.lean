theorem dv11 : ∀ j, j < 12 → defaultValue (t11 j) = vp_V [.null, .null, .null, .null, .null, .null, .null, .null, .null, .null, .null, .null] j := by
  intro j hj
  match j with
  | 0 => rfl
  | 1 => rfl
  | 2 => rfl
  | 3 => rfl
  | 4 => rfl
  | 5 => rfl
  | 6 => rfl
  | 7 => rfl
  | 8 => rfl
  | 9 => rfl
  | 10 => rfl
  | 11 => rfl
  | _ + 12 => omega
theorem dv12 : ∀ j, j < 75 → defaultValue (t12 j) = vp_V [.int 0, .null, .int 0, .null, .int 0, .null, .null, .null, .null, .null, .int 0, .int 0, .int 0, .int 0, .int 0, .int 0, .int 0, .int 0, .int 0, .int 0, .int 0, .null, .null, .null, .null, .null, .null, .null, .null, .null, .null, .int 0, .null, .null, .null, .null, .null, .int 0, .null, .null, .null, .int 0, .null, .null, .int 0, .null, .null, .int 0, .null, .null, .int 0, .null, .null, .null, .null, .null, .int 0, .int 0, .int 0, .int 0, .int 0, .int 0, .int 0, .int 0, .int 0, .int 0, .int 0, .null, .null, .null, .null, .null, .null, .null, .null] j := by
  intro j hj
  match j with
  | 0 => rfl
  | 1 => rfl
  | 2 => rfl
  | 3 => rfl
  | 4 => rfl
  | 5 => rfl
  | 6 => rfl
  | 7 => rfl
  | 8 => rfl
  | 9 => rfl
  | 10 => rfl
  | 11 => rfl
  | 12 => rfl
  | 13 => rfl
  | 14 => rfl
  | 15 => rfl
  | 16 => rfl
  | 17 => rfl
  | 18 => rfl
  | 19 => rfl
  | 20 => rfl
  | 21 => rfl
  | 22 => rfl
  | 23 => rfl
  | 24 => rfl
  | 25 => rfl
  | 26 => rfl
  | 27 => rfl
  | 28 => rfl
  | 29 => rfl
  | 30 => rfl
  | 31 => rfl
  | 32 => rfl
  | 33 => rfl
  | 34 => rfl
  | 35 => rfl
  | 36 => rfl
  | 37 => rfl
  | 38 => rfl
  | 39 => rfl
  | 40 => rfl
  | 41 => rfl
  | 42 => rfl
  | 43 => rfl
  | 44 => rfl
  | 45 => rfl
  | 46 => rfl
  | 47 => rfl
  | 48 => rfl
  | 49 => rfl
  | 50 => rfl
  | 51 => rfl
  | 52 => rfl
  | 53 => rfl
  | 54 => rfl
  | 55 => rfl
  | 56 => rfl
  | 57 => rfl
  | 58 => rfl
  | 59 => rfl
  | 60 => rfl
  | 61 => rfl
  | 62 => rfl
  | 63 => rfl
  | 64 => rfl
  | 65 => rfl
  | 66 => rfl
  | 67 => rfl
  | 68 => rfl
  | 69 => rfl
  | 70 => rfl
  | 71 => rfl
  | 72 => rfl
  | 73 => rfl
  | 74 => rfl
  | _ + 75 => omega
theorem wk_X11_init : Cond.code ({ cls := "RopeDance", name := "<init>", desc := "()V" } : Jvm.MethodName) prog_1_method_1_code (1 : Nat) (Option.none : Option Jvm.ClassFile.FieldType) ∈ lw_g := xg (xin_1 (List.mem_of_getElem? (i := 24) rfl)) rfl
theorem wk_X12_init : Cond.code ({ cls := "RopeDanceModel", name := "<init>", desc := "()V" } : Jvm.MethodName) prog_14_method_2_code (1 : Nat) (Option.none : Option Jvm.ClassFile.FieldType) ∈ lw_g := xg (xin_6 (List.mem_of_getElem? (i := 19) rfl)) rfl
theorem wcl_L_7 : Cond.classLink "RopeDanceLaw" 7 "RopeDance" ∈ lw_g := xg (xin_1 (List.mem_of_getElem? (i := 20) rfl)) rfl
theorem win_X11 : Cond.instantiable "RopeDance" 12 ∈ lw_g := xg (xin_1 (List.mem_of_getElem? (i := 21) rfl)) rfl
theorem MK_X11_init : MK yX11_init bX11_init 1 none 0 := ⟨wn_X11, wk_X11_init, ⟨by decide, by decide, by decide +kernel⟩, by decide⟩
theorem wi_X11_init : Cond.instanceMethod ({ cls := "RopeDance", name := "<init>", desc := "()V" } : Jvm.MethodName) ∈ lw_g := xg (xin_1 (List.mem_of_getElem? (i := 23) rfl)) rfl
theorem wm_L_9 : Cond.methodLink "RopeDanceLaw" (9 : Nat) ({ cls := "RopeDance", name := "<init>", desc := "()V" } : Jvm.MethodName) ∈ lw_g := xg (xin_1 (List.mem_of_getElem? (i := 22) rfl)) rfl
theorem wcl_L_10 : Cond.classLink "RopeDanceLaw" 10 "RopeDanceModel" ∈ lw_g := xg (xin_6 (List.mem_of_getElem? (i := 15) rfl)) rfl
theorem win_X12 : Cond.instantiable "RopeDanceModel" 75 ∈ lw_g := xg (xin_6 (List.mem_of_getElem? (i := 16) rfl)) rfl
theorem MK_X12_init : MK yX12_init bX12_init 1 none 0 := ⟨wn_X12, wk_X12_init, ⟨by decide, by decide, by decide +kernel⟩, by decide⟩
theorem wi_X12_init : Cond.instanceMethod ({ cls := "RopeDanceModel", name := "<init>", desc := "()V" } : Jvm.MethodName) ∈ lw_g := xg (xin_6 (List.mem_of_getElem? (i := 18) rfl)) rfl
theorem wm_L_12 : Cond.methodLink "RopeDanceLaw" (12 : Nat) ({ cls := "RopeDanceModel", name := "<init>", desc := "()V" } : Jvm.MethodName) ∈ lw_g := xg (xin_6 (List.mem_of_getElem? (i := 17) rfl)) rfl
