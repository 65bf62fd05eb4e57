theorem wk_X11_feed : Cond.code ({ cls := "RopeDance", name := "feed", desc := "(IIIII)I" } : Jvm.MethodName) prog_1_method_2_code (6 : Nat) (Option.some Jvm.ClassFile.FieldType.int) ∈ lw_g := xg (xin_2 (List.mem_of_getElem? (i := 165) rfl)) rfl
theorem MK_X11_feed : MK yX11_feed bX11_feed 6 (some .int) 5 := ⟨wn_X11, wk_X11_feed, ⟨by decide, by decide, by decide +kernel⟩, by decide⟩
theorem wi_X11_feed : Cond.instanceMethod ({ cls := "RopeDance", name := "feed", desc := "(IIIII)I" } : Jvm.MethodName) ∈ lw_g := xg (xin_2 (List.mem_of_getElem? (i := 163) rfl)) rfl
theorem we_X11_feed : Cond.selects "RopeDance" yX11_feed yX11_feed ∈ lw_g := xg (xin_2 (List.mem_of_getElem? (i := 164) rfl)) rfl
theorem wm_L_13 : Cond.methodLink "RopeDanceLaw" (13 : Nat) ({ cls := "RopeDance", name := "feed", desc := "(IIIII)I" } : Jvm.MethodName) ∈ lw_g := xg (xin_2 (List.mem_of_getElem? (i := 162) rfl)) rfl
theorem wk_X12_feed : Cond.code ({ cls := "RopeDanceModel", name := "feed", desc := "(IIIII)I" } : Jvm.MethodName) prog_14_method_3_code (6 : Nat) (Option.some Jvm.ClassFile.FieldType.int) ∈ lw_g := xg (xin_7 (List.mem_of_getElem? (i := 64) rfl)) rfl
theorem MK_X12_feed : MK yX12_feed bX12_feed 6 (some .int) 5 := ⟨wn_X12, wk_X12_feed, ⟨by decide, by decide, by decide +kernel⟩, by decide⟩
theorem wi_X12_feed : Cond.instanceMethod ({ cls := "RopeDanceModel", name := "feed", desc := "(IIIII)I" } : Jvm.MethodName) ∈ lw_g := xg (xin_7 (List.mem_of_getElem? (i := 62) rfl)) rfl
theorem we_X12_feed : Cond.selects "RopeDanceModel" yX12_feed yX12_feed ∈ lw_g := xg (xin_7 (List.mem_of_getElem? (i := 63) rfl)) rfl
theorem wm_L_17 : Cond.methodLink "RopeDanceLaw" (17 : Nat) ({ cls := "RopeDanceModel", name := "feed", desc := "(IIIII)I" } : Jvm.MethodName) ∈ lw_g := xg (xin_7 (List.mem_of_getElem? (i := 61) rfl)) rfl
theorem wk_X11_back : Cond.code ({ cls := "RopeDance", name := "back", desc := "(I)I" } : Jvm.MethodName) prog_1_method_3_code (2 : Nat) (Option.some Jvm.ClassFile.FieldType.int) ∈ lw_g := xg (xin_2 (List.mem_of_getElem? (i := 178) rfl)) rfl
theorem MK_X11_back : MK yX11_back bX11_back 2 (some .int) 1 := ⟨wn_X11, wk_X11_back, ⟨by decide, by decide, by decide +kernel⟩, by decide⟩
theorem wi_X11_back : Cond.instanceMethod ({ cls := "RopeDance", name := "back", desc := "(I)I" } : Jvm.MethodName) ∈ lw_g := xg (xin_2 (List.mem_of_getElem? (i := 176) rfl)) rfl
theorem we_X11_back : Cond.selects "RopeDance" yX11_back yX11_back ∈ lw_g := xg (xin_2 (List.mem_of_getElem? (i := 177) rfl)) rfl
theorem wm_L_18 : Cond.methodLink "RopeDanceLaw" (18 : Nat) ({ cls := "RopeDance", name := "back", desc := "(I)I" } : Jvm.MethodName) ∈ lw_g := xg (xin_2 (List.mem_of_getElem? (i := 175) rfl)) rfl
theorem wk_X12_back : Cond.code ({ cls := "RopeDanceModel", name := "back", desc := "(I)I" } : Jvm.MethodName) prog_14_method_5_code (2 : Nat) (Option.some Jvm.ClassFile.FieldType.int) ∈ lw_g := xg (xin_7 (List.mem_of_getElem? (i := 72) rfl)) rfl
theorem MK_X12_back : MK yX12_back bX12_back 2 (some .int) 1 := ⟨wn_X12, wk_X12_back, ⟨by decide, by decide, by decide +kernel⟩, by decide⟩
theorem wi_X12_back : Cond.instanceMethod ({ cls := "RopeDanceModel", name := "back", desc := "(I)I" } : Jvm.MethodName) ∈ lw_g := xg (xin_7 (List.mem_of_getElem? (i := 70) rfl)) rfl
theorem we_X12_back : Cond.selects "RopeDanceModel" yX12_back yX12_back ∈ lw_g := xg (xin_7 (List.mem_of_getElem? (i := 71) rfl)) rfl
theorem wm_L_22 : Cond.methodLink "RopeDanceLaw" (22 : Nat) ({ cls := "RopeDanceModel", name := "back", desc := "(I)I" } : Jvm.MethodName) ∈ lw_g := xg (xin_7 (List.mem_of_getElem? (i := 69) rfl)) rfl
theorem wk_X11_read : Cond.code ({ cls := "RopeDance", name := "read", desc := "()I" } : Jvm.MethodName) prog_1_method_4_code (1 : Nat) (Option.some Jvm.ClassFile.FieldType.int) ∈ lw_g := xg (xin_2 (List.mem_of_getElem? (i := 182) rfl)) rfl
theorem MK_X11_read : MK yX11_read bX11_read 1 (some .int) 0 := ⟨wn_X11, wk_X11_read, ⟨by decide, by decide, by decide +kernel⟩, by decide⟩
theorem wi_X11_read : Cond.instanceMethod ({ cls := "RopeDance", name := "read", desc := "()I" } : Jvm.MethodName) ∈ lw_g := xg (xin_2 (List.mem_of_getElem? (i := 180) rfl)) rfl
theorem we_X11_read : Cond.selects "RopeDance" yX11_read yX11_read ∈ lw_g := xg (xin_2 (List.mem_of_getElem? (i := 181) rfl)) rfl
theorem wm_L_23 : Cond.methodLink "RopeDanceLaw" (23 : Nat) ({ cls := "RopeDance", name := "read", desc := "()I" } : Jvm.MethodName) ∈ lw_g := xg (xin_2 (List.mem_of_getElem? (i := 179) rfl)) rfl
theorem wk_X12_read : Cond.code ({ cls := "RopeDanceModel", name := "read", desc := "()I" } : Jvm.MethodName) prog_14_method_20_code (2 : Nat) (Option.some Jvm.ClassFile.FieldType.int) ∈ lw_g := xg (xin_7 (List.mem_of_getElem? (i := 76) rfl)) rfl
theorem MK_X12_read : MK yX12_read bX12_read 2 (some .int) 0 := ⟨wn_X12, wk_X12_read, ⟨by decide, by decide, by decide +kernel⟩, by decide⟩
theorem wi_X12_read : Cond.instanceMethod ({ cls := "RopeDanceModel", name := "read", desc := "()I" } : Jvm.MethodName) ∈ lw_g := xg (xin_7 (List.mem_of_getElem? (i := 74) rfl)) rfl
theorem we_X12_read : Cond.selects "RopeDanceModel" yX12_read yX12_read ∈ lw_g := xg (xin_7 (List.mem_of_getElem? (i := 75) rfl)) rfl
theorem wm_L_27 : Cond.methodLink "RopeDanceLaw" (27 : Nat) ({ cls := "RopeDanceModel", name := "read", desc := "()I" } : Jvm.MethodName) ∈ lw_g := xg (xin_7 (List.mem_of_getElem? (i := 73) rfl)) rfl
theorem wk_X11_place : Cond.code ({ cls := "RopeDance", name := "place", desc := "()I" } : Jvm.MethodName) prog_1_method_5_code (1 : Nat) (Option.some Jvm.ClassFile.FieldType.int) ∈ lw_g := xg (xin_4 (List.mem_of_getElem? (i := 11) rfl)) rfl
theorem MK_X11_place : MK yX11_place bX11_place 1 (some .int) 0 := ⟨wn_X11, wk_X11_place, ⟨by decide, by decide, by decide +kernel⟩, by decide⟩
theorem wi_X11_place : Cond.instanceMethod ({ cls := "RopeDance", name := "place", desc := "()I" } : Jvm.MethodName) ∈ lw_g := xg (xin_4 (List.mem_of_getElem? (i := 9) rfl)) rfl
theorem we_X11_place : Cond.selects "RopeDance" yX11_place yX11_place ∈ lw_g := xg (xin_4 (List.mem_of_getElem? (i := 10) rfl)) rfl
theorem wm_L_28 : Cond.methodLink "RopeDanceLaw" (28 : Nat) ({ cls := "RopeDance", name := "place", desc := "()I" } : Jvm.MethodName) ∈ lw_g := xg (xin_4 (List.mem_of_getElem? (i := 8) rfl)) rfl
theorem wk_X12_place : Cond.code ({ cls := "RopeDanceModel", name := "place", desc := "()I" } : Jvm.MethodName) prog_14_method_21_code (1 : Nat) (Option.some Jvm.ClassFile.FieldType.int) ∈ lw_g := xg (xin_7 (List.mem_of_getElem? (i := 162) rfl)) rfl
theorem MK_X12_place : MK yX12_place bX12_place 1 (some .int) 0 := ⟨wn_X12, wk_X12_place, ⟨by decide, by decide, by decide +kernel⟩, by decide⟩
theorem wi_X12_place : Cond.instanceMethod ({ cls := "RopeDanceModel", name := "place", desc := "()I" } : Jvm.MethodName) ∈ lw_g := xg (xin_7 (List.mem_of_getElem? (i := 160) rfl)) rfl
theorem we_X12_place : Cond.selects "RopeDanceModel" yX12_place yX12_place ∈ lw_g := xg (xin_7 (List.mem_of_getElem? (i := 161) rfl)) rfl
theorem wm_L_31 : Cond.methodLink "RopeDanceLaw" (31 : Nat) ({ cls := "RopeDanceModel", name := "place", desc := "()I" } : Jvm.MethodName) ∈ lw_g := xg (xin_7 (List.mem_of_getElem? (i := 159) rfl)) rfl
theorem wk_X11_square : Cond.code ({ cls := "RopeDance", name := "square", desc := "(II)I" } : Jvm.MethodName) prog_1_method_6_code (4 : Nat) (Option.some Jvm.ClassFile.FieldType.int) ∈ lw_g := xg (xin_4 (List.mem_of_getElem? (i := 15) rfl)) rfl
theorem MK_X11_square : MK yX11_square bX11_square 4 (some .int) 2 := ⟨wn_X11, wk_X11_square, ⟨by decide, by decide, by decide +kernel⟩, by decide⟩
theorem wi_X11_square : Cond.instanceMethod ({ cls := "RopeDance", name := "square", desc := "(II)I" } : Jvm.MethodName) ∈ lw_g := xg (xin_4 (List.mem_of_getElem? (i := 13) rfl)) rfl
theorem we_X11_square : Cond.selects "RopeDance" yX11_square yX11_square ∈ lw_g := xg (xin_4 (List.mem_of_getElem? (i := 14) rfl)) rfl
theorem wm_L_32 : Cond.methodLink "RopeDanceLaw" (32 : Nat) ({ cls := "RopeDance", name := "square", desc := "(II)I" } : Jvm.MethodName) ∈ lw_g := xg (xin_4 (List.mem_of_getElem? (i := 12) rfl)) rfl
theorem wk_X12_square : Cond.code ({ cls := "RopeDanceModel", name := "square", desc := "(II)I" } : Jvm.MethodName) prog_14_method_70_code (3 : Nat) (Option.some Jvm.ClassFile.FieldType.int) ∈ lw_g := xg (xin_7 (List.mem_of_getElem? (i := 166) rfl)) rfl
theorem MK_X12_square : MK yX12_square bX12_square 3 (some .int) 2 := ⟨wn_X12, wk_X12_square, ⟨by decide, by decide, by decide +kernel⟩, by decide⟩
theorem wi_X12_square : Cond.instanceMethod ({ cls := "RopeDanceModel", name := "square", desc := "(II)I" } : Jvm.MethodName) ∈ lw_g := xg (xin_7 (List.mem_of_getElem? (i := 164) rfl)) rfl
theorem we_X12_square : Cond.selects "RopeDanceModel" yX12_square yX12_square ∈ lw_g := xg (xin_7 (List.mem_of_getElem? (i := 165) rfl)) rfl
theorem wm_L_36 : Cond.methodLink "RopeDanceLaw" (36 : Nat) ({ cls := "RopeDanceModel", name := "square", desc := "(II)I" } : Jvm.MethodName) ∈ lw_g := xg (xin_7 (List.mem_of_getElem? (i := 163) rfl)) rfl
theorem wk_X11_figure : Cond.code ({ cls := "RopeDance", name := "figure", desc := "(II)I" } : Jvm.MethodName) prog_1_method_7_code (4 : Nat) (Option.some Jvm.ClassFile.FieldType.int) ∈ lw_g := xg (xin_4 (List.mem_of_getElem? (i := 57) rfl)) rfl
theorem MK_X11_figure : MK yX11_figure bX11_figure 4 (some .int) 2 := ⟨wn_X11, wk_X11_figure, ⟨by decide, by decide, by decide +kernel⟩, by decide⟩
theorem wi_X11_figure : Cond.instanceMethod ({ cls := "RopeDance", name := "figure", desc := "(II)I" } : Jvm.MethodName) ∈ lw_g := xg (xin_4 (List.mem_of_getElem? (i := 55) rfl)) rfl
theorem we_X11_figure : Cond.selects "RopeDance" yX11_figure yX11_figure ∈ lw_g := xg (xin_4 (List.mem_of_getElem? (i := 56) rfl)) rfl
theorem wm_L_37 : Cond.methodLink "RopeDanceLaw" (37 : Nat) ({ cls := "RopeDance", name := "figure", desc := "(II)I" } : Jvm.MethodName) ∈ lw_g := xg (xin_4 (List.mem_of_getElem? (i := 54) rfl)) rfl
theorem wk_X12_figure : Cond.code ({ cls := "RopeDanceModel", name := "figure", desc := "(II)I" } : Jvm.MethodName) prog_14_method_101_code (3 : Nat) (Option.some Jvm.ClassFile.FieldType.int) ∈ lw_g := xg (xin_8 (List.mem_of_getElem? (i := 126) rfl)) rfl
theorem MK_X12_figure : MK yX12_figure bX12_figure 3 (some .int) 2 := ⟨wn_X12, wk_X12_figure, ⟨by decide, by decide, by decide +kernel⟩, by decide⟩
theorem wi_X12_figure : Cond.instanceMethod ({ cls := "RopeDanceModel", name := "figure", desc := "(II)I" } : Jvm.MethodName) ∈ lw_g := xg (xin_8 (List.mem_of_getElem? (i := 124) rfl)) rfl
theorem we_X12_figure : Cond.selects "RopeDanceModel" yX12_figure yX12_figure ∈ lw_g := xg (xin_8 (List.mem_of_getElem? (i := 125) rfl)) rfl
theorem wm_L_40 : Cond.methodLink "RopeDanceLaw" (40 : Nat) ({ cls := "RopeDanceModel", name := "figure", desc := "(II)I" } : Jvm.MethodName) ∈ lw_g := xg (xin_8 (List.mem_of_getElem? (i := 123) rfl)) rfl
theorem wk_X11_tires : Cond.code ({ cls := "RopeDance", name := "tires", desc := "(II)I" } : Jvm.MethodName) prog_1_method_8_code (5 : Nat) (Option.some Jvm.ClassFile.FieldType.int) ∈ lw_g := xg (xin_4 (List.mem_of_getElem? (i := 74) rfl)) rfl
theorem MK_X11_tires : MK yX11_tires bX11_tires 5 (some .int) 2 := ⟨wn_X11, wk_X11_tires, ⟨by decide, by decide, by decide +kernel⟩, by decide⟩
theorem wi_X11_tires : Cond.instanceMethod ({ cls := "RopeDance", name := "tires", desc := "(II)I" } : Jvm.MethodName) ∈ lw_g := xg (xin_4 (List.mem_of_getElem? (i := 72) rfl)) rfl
theorem we_X11_tires : Cond.selects "RopeDance" yX11_tires yX11_tires ∈ lw_g := xg (xin_4 (List.mem_of_getElem? (i := 73) rfl)) rfl
theorem wm_L_41 : Cond.methodLink "RopeDanceLaw" (41 : Nat) ({ cls := "RopeDance", name := "tires", desc := "(II)I" } : Jvm.MethodName) ∈ lw_g := xg (xin_4 (List.mem_of_getElem? (i := 71) rfl)) rfl
theorem wk_X12_tires : Cond.code ({ cls := "RopeDanceModel", name := "tires", desc := "(II)I" } : Jvm.MethodName) prog_14_method_71_code (3 : Nat) (Option.some Jvm.ClassFile.FieldType.int) ∈ lw_g := xg (xin_7 (List.mem_of_getElem? (i := 214) rfl)) rfl
theorem MK_X12_tires : MK yX12_tires bX12_tires 3 (some .int) 2 := ⟨wn_X12, wk_X12_tires, ⟨by decide, by decide, by decide +kernel⟩, by decide⟩
theorem wi_X12_tires : Cond.instanceMethod ({ cls := "RopeDanceModel", name := "tires", desc := "(II)I" } : Jvm.MethodName) ∈ lw_g := xg (xin_7 (List.mem_of_getElem? (i := 212) rfl)) rfl
theorem we_X12_tires : Cond.selects "RopeDanceModel" yX12_tires yX12_tires ∈ lw_g := xg (xin_7 (List.mem_of_getElem? (i := 213) rfl)) rfl
theorem wm_L_44 : Cond.methodLink "RopeDanceLaw" (44 : Nat) ({ cls := "RopeDanceModel", name := "tires", desc := "(II)I" } : Jvm.MethodName) ∈ lw_g := xg (xin_7 (List.mem_of_getElem? (i := 211) rfl)) rfl
theorem wk_X11_after : Cond.code ({ cls := "RopeDance", name := "after", desc := "(III)I" } : Jvm.MethodName) prog_1_method_9_code (6 : Nat) (Option.some Jvm.ClassFile.FieldType.int) ∈ lw_g := xg (xin_4 (List.mem_of_getElem? (i := 78) rfl)) rfl
theorem MK_X11_after : MK yX11_after bX11_after 6 (some .int) 3 := ⟨wn_X11, wk_X11_after, ⟨by decide, by decide, by decide +kernel⟩, by decide⟩
theorem wi_X11_after : Cond.instanceMethod ({ cls := "RopeDance", name := "after", desc := "(III)I" } : Jvm.MethodName) ∈ lw_g := xg (xin_4 (List.mem_of_getElem? (i := 76) rfl)) rfl
theorem we_X11_after : Cond.selects "RopeDance" yX11_after yX11_after ∈ lw_g := xg (xin_4 (List.mem_of_getElem? (i := 77) rfl)) rfl
theorem wm_L_45 : Cond.methodLink "RopeDanceLaw" (45 : Nat) ({ cls := "RopeDance", name := "after", desc := "(III)I" } : Jvm.MethodName) ∈ lw_g := xg (xin_4 (List.mem_of_getElem? (i := 75) rfl)) rfl
theorem wk_X12_after : Cond.code ({ cls := "RopeDanceModel", name := "after", desc := "(III)I" } : Jvm.MethodName) prog_14_method_72_code (5 : Nat) (Option.some Jvm.ClassFile.FieldType.int) ∈ lw_g := xg (xin_7 (List.mem_of_getElem? (i := 234) rfl)) rfl
theorem MK_X12_after : MK yX12_after bX12_after 5 (some .int) 3 := ⟨wn_X12, wk_X12_after, ⟨by decide, by decide, by decide +kernel⟩, by decide⟩
theorem wi_X12_after : Cond.instanceMethod ({ cls := "RopeDanceModel", name := "after", desc := "(III)I" } : Jvm.MethodName) ∈ lw_g := xg (xin_7 (List.mem_of_getElem? (i := 232) rfl)) rfl
theorem we_X12_after : Cond.selects "RopeDanceModel" yX12_after yX12_after ∈ lw_g := xg (xin_7 (List.mem_of_getElem? (i := 233) rfl)) rfl
theorem wm_L_49 : Cond.methodLink "RopeDanceLaw" (49 : Nat) ({ cls := "RopeDanceModel", name := "after", desc := "(III)I" } : Jvm.MethodName) ∈ lw_g := xg (xin_7 (List.mem_of_getElem? (i := 231) rfl)) rfl
theorem wk_X11_call : Cond.code ({ cls := "RopeDance", name := "call", desc := "(II)I" } : Jvm.MethodName) prog_1_method_10_code (5 : Nat) (Option.some Jvm.ClassFile.FieldType.int) ∈ lw_g := xg (xin_4 (List.mem_of_getElem? (i := 87) rfl)) rfl
theorem MK_X11_call : MK yX11_call bX11_call 5 (some .int) 2 := ⟨wn_X11, wk_X11_call, ⟨by decide, by decide, by decide +kernel⟩, by decide⟩
theorem wi_X11_call : Cond.instanceMethod ({ cls := "RopeDance", name := "call", desc := "(II)I" } : Jvm.MethodName) ∈ lw_g := xg (xin_4 (List.mem_of_getElem? (i := 85) rfl)) rfl
theorem we_X11_call : Cond.selects "RopeDance" yX11_call yX11_call ∈ lw_g := xg (xin_4 (List.mem_of_getElem? (i := 86) rfl)) rfl
theorem wm_L_50 : Cond.methodLink "RopeDanceLaw" (50 : Nat) ({ cls := "RopeDance", name := "call", desc := "(II)I" } : Jvm.MethodName) ∈ lw_g := xg (xin_4 (List.mem_of_getElem? (i := 84) rfl)) rfl
theorem wk_X12_call : Cond.code ({ cls := "RopeDanceModel", name := "call", desc := "(II)I" } : Jvm.MethodName) prog_14_method_75_code (3 : Nat) (Option.some Jvm.ClassFile.FieldType.int) ∈ lw_g := xg (xin_8 (List.mem_of_getElem? (i := 2) rfl)) rfl
theorem MK_X12_call : MK yX12_call bX12_call 3 (some .int) 2 := ⟨wn_X12, wk_X12_call, ⟨by decide, by decide, by decide +kernel⟩, by decide⟩
theorem wi_X12_call : Cond.instanceMethod ({ cls := "RopeDanceModel", name := "call", desc := "(II)I" } : Jvm.MethodName) ∈ lw_g := xg (xin_8 (List.mem_of_getElem? (i := 0) rfl)) rfl
theorem we_X12_call : Cond.selects "RopeDanceModel" yX12_call yX12_call ∈ lw_g := xg (xin_8 (List.mem_of_getElem? (i := 1) rfl)) rfl
theorem wm_L_53 : Cond.methodLink "RopeDanceLaw" (53 : Nat) ({ cls := "RopeDanceModel", name := "call", desc := "(II)I" } : Jvm.MethodName) ∈ lw_g := xg (xin_7 (List.mem_of_getElem? (i := 239) rfl)) rfl
theorem wk_X11_move : Cond.code ({ cls := "RopeDance", name := "move", desc := "(III)Z" } : Jvm.MethodName) prog_1_method_11_code (5 : Nat) (Option.some Jvm.ClassFile.FieldType.boolean) ∈ lw_g := xg (xin_4 (List.mem_of_getElem? (i := 107) rfl)) rfl
theorem MK_X11_move : MK yX11_move bX11_move 5 (some .boolean) 3 := ⟨wn_X11, wk_X11_move, ⟨by decide, by decide, by decide +kernel⟩, by decide⟩
theorem wi_X11_move : Cond.instanceMethod ({ cls := "RopeDance", name := "move", desc := "(III)Z" } : Jvm.MethodName) ∈ lw_g := xg (xin_4 (List.mem_of_getElem? (i := 105) rfl)) rfl
theorem we_X11_move : Cond.selects "RopeDance" yX11_move yX11_move ∈ lw_g := xg (xin_4 (List.mem_of_getElem? (i := 106) rfl)) rfl
theorem wm_L_54 : Cond.methodLink "RopeDanceLaw" (54 : Nat) ({ cls := "RopeDance", name := "move", desc := "(III)Z" } : Jvm.MethodName) ∈ lw_g := xg (xin_4 (List.mem_of_getElem? (i := 104) rfl)) rfl
theorem wk_X12_move : Cond.code ({ cls := "RopeDanceModel", name := "move", desc := "(III)Z" } : Jvm.MethodName) prog_14_method_76_code (5 : Nat) (Option.some Jvm.ClassFile.FieldType.boolean) ∈ lw_g := xg (xin_8 (List.mem_of_getElem? (i := 14) rfl)) rfl
theorem MK_X12_move : MK yX12_move bX12_move 5 (some .boolean) 3 := ⟨wn_X12, wk_X12_move, ⟨by decide, by decide, by decide +kernel⟩, by decide⟩
theorem wi_X12_move : Cond.instanceMethod ({ cls := "RopeDanceModel", name := "move", desc := "(III)Z" } : Jvm.MethodName) ∈ lw_g := xg (xin_8 (List.mem_of_getElem? (i := 12) rfl)) rfl
theorem we_X12_move : Cond.selects "RopeDanceModel" yX12_move yX12_move ∈ lw_g := xg (xin_8 (List.mem_of_getElem? (i := 13) rfl)) rfl
theorem wm_L_58 : Cond.methodLink "RopeDanceLaw" (58 : Nat) ({ cls := "RopeDanceModel", name := "move", desc := "(III)Z" } : Jvm.MethodName) ∈ lw_g := xg (xin_8 (List.mem_of_getElem? (i := 11) rfl)) rfl
theorem wk_X11_let : Cond.code ({ cls := "RopeDance", name := "let", desc := "(I)Z" } : Jvm.MethodName) prog_1_method_12_code (3 : Nat) (Option.some Jvm.ClassFile.FieldType.boolean) ∈ lw_g := xg (xin_4 (List.mem_of_getElem? (i := 112) rfl)) rfl
theorem MK_X11_let : MK yX11_let bX11_let 3 (some .boolean) 1 := ⟨wn_X11, wk_X11_let, ⟨by decide, by decide, by decide +kernel⟩, by decide⟩
theorem wi_X11_let : Cond.instanceMethod ({ cls := "RopeDance", name := "let", desc := "(I)Z" } : Jvm.MethodName) ∈ lw_g := xg (xin_4 (List.mem_of_getElem? (i := 110) rfl)) rfl
theorem we_X11_let : Cond.selects "RopeDance" yX11_let yX11_let ∈ lw_g := xg (xin_4 (List.mem_of_getElem? (i := 111) rfl)) rfl
theorem wm_L_59 : Cond.methodLink "RopeDanceLaw" (59 : Nat) ({ cls := "RopeDance", name := "let", desc := "(I)Z" } : Jvm.MethodName) ∈ lw_g := xg (xin_4 (List.mem_of_getElem? (i := 109) rfl)) rfl
theorem wk_X12_let : Cond.code ({ cls := "RopeDanceModel", name := "let", desc := "(I)Z" } : Jvm.MethodName) prog_14_method_77_code (2 : Nat) (Option.some Jvm.ClassFile.FieldType.boolean) ∈ lw_g := xg (xin_8 (List.mem_of_getElem? (i := 22) rfl)) rfl
theorem MK_X12_let : MK yX12_let bX12_let 2 (some .boolean) 1 := ⟨wn_X12, wk_X12_let, ⟨by decide, by decide, by decide +kernel⟩, by decide⟩
theorem wi_X12_let : Cond.instanceMethod ({ cls := "RopeDanceModel", name := "let", desc := "(I)Z" } : Jvm.MethodName) ∈ lw_g := xg (xin_8 (List.mem_of_getElem? (i := 20) rfl)) rfl
theorem we_X12_let : Cond.selects "RopeDanceModel" yX12_let yX12_let ∈ lw_g := xg (xin_8 (List.mem_of_getElem? (i := 21) rfl)) rfl
theorem wm_L_63 : Cond.methodLink "RopeDanceLaw" (63 : Nat) ({ cls := "RopeDanceModel", name := "let", desc := "(I)Z" } : Jvm.MethodName) ∈ lw_g := xg (xin_8 (List.mem_of_getElem? (i := 19) rfl)) rfl
theorem wk_X11_minutes : Cond.code ({ cls := "RopeDance", name := "minutes", desc := "(I)I" } : Jvm.MethodName) prog_1_method_13_code (3 : Nat) (Option.some Jvm.ClassFile.FieldType.int) ∈ lw_g := xg (xin_4 (List.mem_of_getElem? (i := 121) rfl)) rfl
theorem MK_X11_minutes : MK yX11_minutes bX11_minutes 3 (some .int) 1 := ⟨wn_X11, wk_X11_minutes, ⟨by decide, by decide, by decide +kernel⟩, by decide⟩
theorem wi_X11_minutes : Cond.instanceMethod ({ cls := "RopeDance", name := "minutes", desc := "(I)I" } : Jvm.MethodName) ∈ lw_g := xg (xin_4 (List.mem_of_getElem? (i := 119) rfl)) rfl
theorem we_X11_minutes : Cond.selects "RopeDance" yX11_minutes yX11_minutes ∈ lw_g := xg (xin_4 (List.mem_of_getElem? (i := 120) rfl)) rfl
theorem wm_L_64 : Cond.methodLink "RopeDanceLaw" (64 : Nat) ({ cls := "RopeDance", name := "minutes", desc := "(I)I" } : Jvm.MethodName) ∈ lw_g := xg (xin_4 (List.mem_of_getElem? (i := 118) rfl)) rfl
theorem wk_X12_minutes : Cond.code ({ cls := "RopeDanceModel", name := "minutes", desc := "(I)I" } : Jvm.MethodName) prog_14_method_79_code (2 : Nat) (Option.some Jvm.ClassFile.FieldType.int) ∈ lw_g := xg (xin_8 (List.mem_of_getElem? (i := 26) rfl)) rfl
theorem MK_X12_minutes : MK yX12_minutes bX12_minutes 2 (some .int) 1 := ⟨wn_X12, wk_X12_minutes, ⟨by decide, by decide, by decide +kernel⟩, by decide⟩
theorem wi_X12_minutes : Cond.instanceMethod ({ cls := "RopeDanceModel", name := "minutes", desc := "(I)I" } : Jvm.MethodName) ∈ lw_g := xg (xin_8 (List.mem_of_getElem? (i := 24) rfl)) rfl
theorem we_X12_minutes : Cond.selects "RopeDanceModel" yX12_minutes yX12_minutes ∈ lw_g := xg (xin_8 (List.mem_of_getElem? (i := 25) rfl)) rfl
theorem wm_L_67 : Cond.methodLink "RopeDanceLaw" (67 : Nat) ({ cls := "RopeDanceModel", name := "minutes", desc := "(I)I" } : Jvm.MethodName) ∈ lw_g := xg (xin_8 (List.mem_of_getElem? (i := 23) rfl)) rfl
theorem wk_X11_undo : Cond.code ({ cls := "RopeDance", name := "undo", desc := "()Z" } : Jvm.MethodName) prog_1_method_14_code (1 : Nat) (Option.some Jvm.ClassFile.FieldType.boolean) ∈ lw_g := xg (xin_4 (List.mem_of_getElem? (i := 143) rfl)) rfl
theorem MK_X11_undo : MK yX11_undo bX11_undo 1 (some .boolean) 0 := ⟨wn_X11, wk_X11_undo, ⟨by decide, by decide, by decide +kernel⟩, by decide⟩
theorem wi_X11_undo : Cond.instanceMethod ({ cls := "RopeDance", name := "undo", desc := "()Z" } : Jvm.MethodName) ∈ lw_g := xg (xin_4 (List.mem_of_getElem? (i := 141) rfl)) rfl
theorem we_X11_undo : Cond.selects "RopeDance" yX11_undo yX11_undo ∈ lw_g := xg (xin_4 (List.mem_of_getElem? (i := 142) rfl)) rfl
theorem wm_L_68 : Cond.methodLink "RopeDanceLaw" (68 : Nat) ({ cls := "RopeDance", name := "undo", desc := "()Z" } : Jvm.MethodName) ∈ lw_g := xg (xin_4 (List.mem_of_getElem? (i := 140) rfl)) rfl
theorem wk_X12_undo : Cond.code ({ cls := "RopeDanceModel", name := "undo", desc := "()Z" } : Jvm.MethodName) prog_14_method_80_code (2 : Nat) (Option.some Jvm.ClassFile.FieldType.boolean) ∈ lw_g := xg (xin_8 (List.mem_of_getElem? (i := 62) rfl)) rfl
theorem MK_X12_undo : MK yX12_undo bX12_undo 2 (some .boolean) 0 := ⟨wn_X12, wk_X12_undo, ⟨by decide, by decide, by decide +kernel⟩, by decide⟩
theorem wi_X12_undo : Cond.instanceMethod ({ cls := "RopeDanceModel", name := "undo", desc := "()Z" } : Jvm.MethodName) ∈ lw_g := xg (xin_8 (List.mem_of_getElem? (i := 60) rfl)) rfl
theorem we_X12_undo : Cond.selects "RopeDanceModel" yX12_undo yX12_undo ∈ lw_g := xg (xin_8 (List.mem_of_getElem? (i := 61) rfl)) rfl
theorem wm_L_72 : Cond.methodLink "RopeDanceLaw" (72 : Nat) ({ cls := "RopeDanceModel", name := "undo", desc := "()Z" } : Jvm.MethodName) ∈ lw_g := xg (xin_8 (List.mem_of_getElem? (i := 59) rfl)) rfl
theorem wk_X11_least : Cond.code ({ cls := "RopeDance", name := "least", desc := "(I)I" } : Jvm.MethodName) prog_1_method_15_code (3 : Nat) (Option.some Jvm.ClassFile.FieldType.int) ∈ lw_g := xg (xin_4 (List.mem_of_getElem? (i := 155) rfl)) rfl
theorem MK_X11_least : MK yX11_least bX11_least 3 (some .int) 1 := ⟨wn_X11, wk_X11_least, ⟨by decide, by decide, by decide +kernel⟩, by decide⟩
theorem wi_X11_least : Cond.instanceMethod ({ cls := "RopeDance", name := "least", desc := "(I)I" } : Jvm.MethodName) ∈ lw_g := xg (xin_4 (List.mem_of_getElem? (i := 153) rfl)) rfl
theorem we_X11_least : Cond.selects "RopeDance" yX11_least yX11_least ∈ lw_g := xg (xin_4 (List.mem_of_getElem? (i := 154) rfl)) rfl
theorem wm_L_73 : Cond.methodLink "RopeDanceLaw" (73 : Nat) ({ cls := "RopeDance", name := "least", desc := "(I)I" } : Jvm.MethodName) ∈ lw_g := xg (xin_4 (List.mem_of_getElem? (i := 152) rfl)) rfl
theorem wk_X12_least : Cond.code ({ cls := "RopeDanceModel", name := "least", desc := "(I)I" } : Jvm.MethodName) prog_14_method_81_code (2 : Nat) (Option.some Jvm.ClassFile.FieldType.int) ∈ lw_g := xg (xin_8 (List.mem_of_getElem? (i := 66) rfl)) rfl
theorem MK_X12_least : MK yX12_least bX12_least 2 (some .int) 1 := ⟨wn_X12, wk_X12_least, ⟨by decide, by decide, by decide +kernel⟩, by decide⟩
theorem wi_X12_least : Cond.instanceMethod ({ cls := "RopeDanceModel", name := "least", desc := "(I)I" } : Jvm.MethodName) ∈ lw_g := xg (xin_8 (List.mem_of_getElem? (i := 64) rfl)) rfl
theorem we_X12_least : Cond.selects "RopeDanceModel" yX12_least yX12_least ∈ lw_g := xg (xin_8 (List.mem_of_getElem? (i := 65) rfl)) rfl
theorem wm_L_76 : Cond.methodLink "RopeDanceLaw" (76 : Nat) ({ cls := "RopeDanceModel", name := "least", desc := "(I)I" } : Jvm.MethodName) ∈ lw_g := xg (xin_8 (List.mem_of_getElem? (i := 63) rfl)) rfl
theorem wk_X11_ways : Cond.code ({ cls := "RopeDance", name := "ways", desc := "(I)I" } : Jvm.MethodName) prog_1_method_16_code (3 : Nat) (Option.some Jvm.ClassFile.FieldType.int) ∈ lw_g := xg (xin_4 (List.mem_of_getElem? (i := 190) rfl)) rfl
theorem MK_X11_ways : MK yX11_ways bX11_ways 3 (some .int) 1 := ⟨wn_X11, wk_X11_ways, ⟨by decide, by decide, by decide +kernel⟩, by decide⟩
theorem wi_X11_ways : Cond.instanceMethod ({ cls := "RopeDance", name := "ways", desc := "(I)I" } : Jvm.MethodName) ∈ lw_g := xg (xin_4 (List.mem_of_getElem? (i := 188) rfl)) rfl
theorem we_X11_ways : Cond.selects "RopeDance" yX11_ways yX11_ways ∈ lw_g := xg (xin_4 (List.mem_of_getElem? (i := 189) rfl)) rfl
theorem wm_L_77 : Cond.methodLink "RopeDanceLaw" (77 : Nat) ({ cls := "RopeDance", name := "ways", desc := "(I)I" } : Jvm.MethodName) ∈ lw_g := xg (xin_4 (List.mem_of_getElem? (i := 187) rfl)) rfl
theorem wk_X12_ways : Cond.code ({ cls := "RopeDanceModel", name := "ways", desc := "(I)I" } : Jvm.MethodName) prog_14_method_82_code (2 : Nat) (Option.some Jvm.ClassFile.FieldType.int) ∈ lw_g := xg (xin_8 (List.mem_of_getElem? (i := 70) rfl)) rfl
theorem MK_X12_ways : MK yX12_ways bX12_ways 2 (some .int) 1 := ⟨wn_X12, wk_X12_ways, ⟨by decide, by decide, by decide +kernel⟩, by decide⟩
theorem wi_X12_ways : Cond.instanceMethod ({ cls := "RopeDanceModel", name := "ways", desc := "(I)I" } : Jvm.MethodName) ∈ lw_g := xg (xin_8 (List.mem_of_getElem? (i := 68) rfl)) rfl
theorem we_X12_ways : Cond.selects "RopeDanceModel" yX12_ways yX12_ways ∈ lw_g := xg (xin_8 (List.mem_of_getElem? (i := 69) rfl)) rfl
theorem wm_L_80 : Cond.methodLink "RopeDanceLaw" (80 : Nat) ({ cls := "RopeDanceModel", name := "ways", desc := "(I)I" } : Jvm.MethodName) ∈ lw_g := xg (xin_8 (List.mem_of_getElem? (i := 67) rfl)) rfl
theorem wk_X11_step : Cond.code ({ cls := "RopeDance", name := "step", desc := "(II)I" } : Jvm.MethodName) prog_1_method_17_code (4 : Nat) (Option.some Jvm.ClassFile.FieldType.int) ∈ lw_g := xg (xin_4 (List.mem_of_getElem? (i := 195) rfl)) rfl
theorem MK_X11_step : MK yX11_step bX11_step 4 (some .int) 2 := ⟨wn_X11, wk_X11_step, ⟨by decide, by decide, by decide +kernel⟩, by decide⟩
theorem wi_X11_step : Cond.instanceMethod ({ cls := "RopeDance", name := "step", desc := "(II)I" } : Jvm.MethodName) ∈ lw_g := xg (xin_4 (List.mem_of_getElem? (i := 193) rfl)) rfl
theorem we_X11_step : Cond.selects "RopeDance" yX11_step yX11_step ∈ lw_g := xg (xin_4 (List.mem_of_getElem? (i := 194) rfl)) rfl
theorem wm_L_81 : Cond.methodLink "RopeDanceLaw" (81 : Nat) ({ cls := "RopeDance", name := "step", desc := "(II)I" } : Jvm.MethodName) ∈ lw_g := xg (xin_4 (List.mem_of_getElem? (i := 192) rfl)) rfl
theorem wk_X12_step : Cond.code ({ cls := "RopeDanceModel", name := "step", desc := "(II)I" } : Jvm.MethodName) prog_14_method_84_code (8 : Nat) (Option.some Jvm.ClassFile.FieldType.int) ∈ lw_g := xg (xin_8 (List.mem_of_getElem? (i := 74) rfl)) rfl
theorem MK_X12_step : MK yX12_step bX12_step 8 (some .int) 2 := ⟨wn_X12, wk_X12_step, ⟨by decide, by decide, by decide +kernel⟩, by decide⟩
theorem wi_X12_step : Cond.instanceMethod ({ cls := "RopeDanceModel", name := "step", desc := "(II)I" } : Jvm.MethodName) ∈ lw_g := xg (xin_8 (List.mem_of_getElem? (i := 72) rfl)) rfl
theorem we_X12_step : Cond.selects "RopeDanceModel" yX12_step yX12_step ∈ lw_g := xg (xin_8 (List.mem_of_getElem? (i := 73) rfl)) rfl
theorem wm_L_84 : Cond.methodLink "RopeDanceLaw" (84 : Nat) ({ cls := "RopeDanceModel", name := "step", desc := "(II)I" } : Jvm.MethodName) ∈ lw_g := xg (xin_8 (List.mem_of_getElem? (i := 71) rfl)) rfl
theorem wk_X11_plan : Cond.code ({ cls := "RopeDance", name := "plan", desc := "(II)I" } : Jvm.MethodName) prog_1_method_18_code (4 : Nat) (Option.some Jvm.ClassFile.FieldType.int) ∈ lw_g := xg (xin_4 (List.mem_of_getElem? (i := 210) rfl)) rfl
theorem MK_X11_plan : MK yX11_plan bX11_plan 4 (some .int) 2 := ⟨wn_X11, wk_X11_plan, ⟨by decide, by decide, by decide +kernel⟩, by decide⟩
theorem wi_X11_plan : Cond.instanceMethod ({ cls := "RopeDance", name := "plan", desc := "(II)I" } : Jvm.MethodName) ∈ lw_g := xg (xin_4 (List.mem_of_getElem? (i := 208) rfl)) rfl
theorem we_X11_plan : Cond.selects "RopeDance" yX11_plan yX11_plan ∈ lw_g := xg (xin_4 (List.mem_of_getElem? (i := 209) rfl)) rfl
theorem wm_L_85 : Cond.methodLink "RopeDanceLaw" (85 : Nat) ({ cls := "RopeDance", name := "plan", desc := "(II)I" } : Jvm.MethodName) ∈ lw_g := xg (xin_4 (List.mem_of_getElem? (i := 207) rfl)) rfl
theorem wk_X12_plan : Cond.code ({ cls := "RopeDanceModel", name := "plan", desc := "(II)I" } : Jvm.MethodName) prog_14_method_87_code (3 : Nat) (Option.some Jvm.ClassFile.FieldType.int) ∈ lw_g := xg (xin_8 (List.mem_of_getElem? (i := 82) rfl)) rfl
theorem MK_X12_plan : MK yX12_plan bX12_plan 3 (some .int) 2 := ⟨wn_X12, wk_X12_plan, ⟨by decide, by decide, by decide +kernel⟩, by decide⟩
theorem wi_X12_plan : Cond.instanceMethod ({ cls := "RopeDanceModel", name := "plan", desc := "(II)I" } : Jvm.MethodName) ∈ lw_g := xg (xin_8 (List.mem_of_getElem? (i := 80) rfl)) rfl
theorem we_X12_plan : Cond.selects "RopeDanceModel" yX12_plan yX12_plan ∈ lw_g := xg (xin_8 (List.mem_of_getElem? (i := 81) rfl)) rfl
theorem wm_L_88 : Cond.methodLink "RopeDanceLaw" (88 : Nat) ({ cls := "RopeDanceModel", name := "plan", desc := "(II)I" } : Jvm.MethodName) ∈ lw_g := xg (xin_8 (List.mem_of_getElem? (i := 79) rfl)) rfl
theorem wk_X11_bring : Cond.code ({ cls := "RopeDance", name := "bring", desc := "(III)I" } : Jvm.MethodName) prog_1_method_19_code (6 : Nat) (Option.some Jvm.ClassFile.FieldType.int) ∈ lw_g := xg (xin_5 (List.mem_of_getElem? (i := 33) rfl)) rfl
theorem MK_X11_bring : MK yX11_bring bX11_bring 6 (some .int) 3 := ⟨wn_X11, wk_X11_bring, ⟨by decide, by decide, by decide +kernel⟩, by decide⟩
theorem wi_X11_bring : Cond.instanceMethod ({ cls := "RopeDance", name := "bring", desc := "(III)I" } : Jvm.MethodName) ∈ lw_g := xg (xin_5 (List.mem_of_getElem? (i := 31) rfl)) rfl
theorem we_X11_bring : Cond.selects "RopeDance" yX11_bring yX11_bring ∈ lw_g := xg (xin_5 (List.mem_of_getElem? (i := 32) rfl)) rfl
theorem wm_L_89 : Cond.methodLink "RopeDanceLaw" (89 : Nat) ({ cls := "RopeDance", name := "bring", desc := "(III)I" } : Jvm.MethodName) ∈ lw_g := xg (xin_5 (List.mem_of_getElem? (i := 30) rfl)) rfl
theorem wk_X12_bring : Cond.code ({ cls := "RopeDanceModel", name := "bring", desc := "(III)I" } : Jvm.MethodName) prog_14_method_88_code (4 : Nat) (Option.some Jvm.ClassFile.FieldType.int) ∈ lw_g := xg (xin_8 (List.mem_of_getElem? (i := 94) rfl)) rfl
theorem MK_X12_bring : MK yX12_bring bX12_bring 4 (some .int) 3 := ⟨wn_X12, wk_X12_bring, ⟨by decide, by decide, by decide +kernel⟩, by decide⟩
theorem wi_X12_bring : Cond.instanceMethod ({ cls := "RopeDanceModel", name := "bring", desc := "(III)I" } : Jvm.MethodName) ∈ lw_g := xg (xin_8 (List.mem_of_getElem? (i := 92) rfl)) rfl
theorem we_X12_bring : Cond.selects "RopeDanceModel" yX12_bring yX12_bring ∈ lw_g := xg (xin_8 (List.mem_of_getElem? (i := 93) rfl)) rfl
theorem wm_L_92 : Cond.methodLink "RopeDanceLaw" (92 : Nat) ({ cls := "RopeDanceModel", name := "bring", desc := "(III)I" } : Jvm.MethodName) ∈ lw_g := xg (xin_8 (List.mem_of_getElem? (i := 91) rfl)) rfl
theorem wk_X11_reach : Cond.code ({ cls := "RopeDance", name := "reach", desc := "(I)I" } : Jvm.MethodName) prog_1_method_20_code (3 : Nat) (Option.some Jvm.ClassFile.FieldType.int) ∈ lw_g := xg (xin_5 (List.mem_of_getElem? (i := 37) rfl)) rfl
theorem MK_X11_reach : MK yX11_reach bX11_reach 3 (some .int) 1 := ⟨wn_X11, wk_X11_reach, ⟨by decide, by decide, by decide +kernel⟩, by decide⟩
theorem wi_X11_reach : Cond.instanceMethod ({ cls := "RopeDance", name := "reach", desc := "(I)I" } : Jvm.MethodName) ∈ lw_g := xg (xin_5 (List.mem_of_getElem? (i := 35) rfl)) rfl
theorem we_X11_reach : Cond.selects "RopeDance" yX11_reach yX11_reach ∈ lw_g := xg (xin_5 (List.mem_of_getElem? (i := 36) rfl)) rfl
theorem wm_L_93 : Cond.methodLink "RopeDanceLaw" (93 : Nat) ({ cls := "RopeDance", name := "reach", desc := "(I)I" } : Jvm.MethodName) ∈ lw_g := xg (xin_5 (List.mem_of_getElem? (i := 34) rfl)) rfl
theorem wk_X12_reach : Cond.code ({ cls := "RopeDanceModel", name := "reach", desc := "(I)I" } : Jvm.MethodName) prog_14_method_89_code (2 : Nat) (Option.some Jvm.ClassFile.FieldType.int) ∈ lw_g := xg (xin_8 (List.mem_of_getElem? (i := 98) rfl)) rfl
theorem MK_X12_reach : MK yX12_reach bX12_reach 2 (some .int) 1 := ⟨wn_X12, wk_X12_reach, ⟨by decide, by decide, by decide +kernel⟩, by decide⟩
theorem wi_X12_reach : Cond.instanceMethod ({ cls := "RopeDanceModel", name := "reach", desc := "(I)I" } : Jvm.MethodName) ∈ lw_g := xg (xin_8 (List.mem_of_getElem? (i := 96) rfl)) rfl
theorem we_X12_reach : Cond.selects "RopeDanceModel" yX12_reach yX12_reach ∈ lw_g := xg (xin_8 (List.mem_of_getElem? (i := 97) rfl)) rfl
theorem wm_L_96 : Cond.methodLink "RopeDanceLaw" (96 : Nat) ({ cls := "RopeDanceModel", name := "reach", desc := "(I)I" } : Jvm.MethodName) ∈ lw_g := xg (xin_8 (List.mem_of_getElem? (i := 95) rfl)) rfl
theorem wk_X11_alike : Cond.code ({ cls := "RopeDance", name := "alike", desc := "(II)I" } : Jvm.MethodName) prog_1_method_21_code (8 : Nat) (Option.some Jvm.ClassFile.FieldType.int) ∈ lw_g := xg (xin_5 (List.mem_of_getElem? (i := 41) rfl)) rfl
theorem MK_X11_alike : MK yX11_alike bX11_alike 8 (some .int) 2 := ⟨wn_X11, wk_X11_alike, ⟨by decide, by decide, by decide +kernel⟩, by decide⟩
theorem wi_X11_alike : Cond.instanceMethod ({ cls := "RopeDance", name := "alike", desc := "(II)I" } : Jvm.MethodName) ∈ lw_g := xg (xin_5 (List.mem_of_getElem? (i := 39) rfl)) rfl
theorem we_X11_alike : Cond.selects "RopeDance" yX11_alike yX11_alike ∈ lw_g := xg (xin_5 (List.mem_of_getElem? (i := 40) rfl)) rfl
theorem wm_L_97 : Cond.methodLink "RopeDanceLaw" (97 : Nat) ({ cls := "RopeDance", name := "alike", desc := "(II)I" } : Jvm.MethodName) ∈ lw_g := xg (xin_5 (List.mem_of_getElem? (i := 38) rfl)) rfl
theorem wk_X12_alike : Cond.code ({ cls := "RopeDanceModel", name := "alike", desc := "(II)I" } : Jvm.MethodName) prog_14_method_93_code (4 : Nat) (Option.some Jvm.ClassFile.FieldType.int) ∈ lw_g := xg (xin_8 (List.mem_of_getElem? (i := 114) rfl)) rfl
theorem MK_X12_alike : MK yX12_alike bX12_alike 4 (some .int) 2 := ⟨wn_X12, wk_X12_alike, ⟨by decide, by decide, by decide +kernel⟩, by decide⟩
theorem wi_X12_alike : Cond.instanceMethod ({ cls := "RopeDanceModel", name := "alike", desc := "(II)I" } : Jvm.MethodName) ∈ lw_g := xg (xin_8 (List.mem_of_getElem? (i := 112) rfl)) rfl
theorem we_X12_alike : Cond.selects "RopeDanceModel" yX12_alike yX12_alike ∈ lw_g := xg (xin_8 (List.mem_of_getElem? (i := 113) rfl)) rfl
theorem wm_L_100 : Cond.methodLink "RopeDanceLaw" (100 : Nat) ({ cls := "RopeDanceModel", name := "alike", desc := "(II)I" } : Jvm.MethodName) ∈ lw_g := xg (xin_8 (List.mem_of_getElem? (i := 111) rfl)) rfl
theorem wk_X11_closed : Cond.code ({ cls := "RopeDance", name := "closed", desc := "(II)I" } : Jvm.MethodName) prog_1_method_22_code (4 : Nat) (Option.some Jvm.ClassFile.FieldType.int) ∈ lw_g := xg (xin_5 (List.mem_of_getElem? (i := 54) rfl)) rfl
theorem MK_X11_closed : MK yX11_closed bX11_closed 4 (some .int) 2 := ⟨wn_X11, wk_X11_closed, ⟨by decide, by decide, by decide +kernel⟩, by decide⟩
theorem wi_X11_closed : Cond.instanceMethod ({ cls := "RopeDance", name := "closed", desc := "(II)I" } : Jvm.MethodName) ∈ lw_g := xg (xin_5 (List.mem_of_getElem? (i := 52) rfl)) rfl
theorem we_X11_closed : Cond.selects "RopeDance" yX11_closed yX11_closed ∈ lw_g := xg (xin_5 (List.mem_of_getElem? (i := 53) rfl)) rfl
theorem wm_L_101 : Cond.methodLink "RopeDanceLaw" (101 : Nat) ({ cls := "RopeDance", name := "closed", desc := "(II)I" } : Jvm.MethodName) ∈ lw_g := xg (xin_5 (List.mem_of_getElem? (i := 51) rfl)) rfl
theorem wk_X12_closed : Cond.code ({ cls := "RopeDanceModel", name := "closed", desc := "(II)I" } : Jvm.MethodName) prog_14_method_92_code (3 : Nat) (Option.some Jvm.ClassFile.FieldType.int) ∈ lw_g := xg (xin_8 (List.mem_of_getElem? (i := 102) rfl)) rfl
theorem MK_X12_closed : MK yX12_closed bX12_closed 3 (some .int) 2 := ⟨wn_X12, wk_X12_closed, ⟨by decide, by decide, by decide +kernel⟩, by decide⟩
theorem wi_X12_closed : Cond.instanceMethod ({ cls := "RopeDanceModel", name := "closed", desc := "(II)I" } : Jvm.MethodName) ∈ lw_g := xg (xin_8 (List.mem_of_getElem? (i := 100) rfl)) rfl
theorem we_X12_closed : Cond.selects "RopeDanceModel" yX12_closed yX12_closed ∈ lw_g := xg (xin_8 (List.mem_of_getElem? (i := 101) rfl)) rfl
theorem wm_L_104 : Cond.methodLink "RopeDanceLaw" (104 : Nat) ({ cls := "RopeDanceModel", name := "closed", desc := "(II)I" } : Jvm.MethodName) ∈ lw_g := xg (xin_8 (List.mem_of_getElem? (i := 99) rfl)) rfl
theorem wk_X11_colours : Cond.code ({ cls := "RopeDance", name := "colours", desc := "(II)I" } : Jvm.MethodName) prog_1_method_23_code (4 : Nat) (Option.some Jvm.ClassFile.FieldType.int) ∈ lw_g := xg (xin_5 (List.mem_of_getElem? (i := 58) rfl)) rfl
theorem MK_X11_colours : MK yX11_colours bX11_colours 4 (some .int) 2 := ⟨wn_X11, wk_X11_colours, ⟨by decide, by decide, by decide +kernel⟩, by decide⟩
theorem wi_X11_colours : Cond.instanceMethod ({ cls := "RopeDance", name := "colours", desc := "(II)I" } : Jvm.MethodName) ∈ lw_g := xg (xin_5 (List.mem_of_getElem? (i := 56) rfl)) rfl
theorem we_X11_colours : Cond.selects "RopeDance" yX11_colours yX11_colours ∈ lw_g := xg (xin_5 (List.mem_of_getElem? (i := 57) rfl)) rfl
theorem wm_L_105 : Cond.methodLink "RopeDanceLaw" (105 : Nat) ({ cls := "RopeDance", name := "colours", desc := "(II)I" } : Jvm.MethodName) ∈ lw_g := xg (xin_5 (List.mem_of_getElem? (i := 55) rfl)) rfl
theorem wk_X12_colours : Cond.code ({ cls := "RopeDanceModel", name := "colours", desc := "(II)I" } : Jvm.MethodName) prog_14_method_94_code (3 : Nat) (Option.some Jvm.ClassFile.FieldType.int) ∈ lw_g := xg (xin_8 (List.mem_of_getElem? (i := 118) rfl)) rfl
theorem MK_X12_colours : MK yX12_colours bX12_colours 3 (some .int) 2 := ⟨wn_X12, wk_X12_colours, ⟨by decide, by decide, by decide +kernel⟩, by decide⟩
theorem wi_X12_colours : Cond.instanceMethod ({ cls := "RopeDanceModel", name := "colours", desc := "(II)I" } : Jvm.MethodName) ∈ lw_g := xg (xin_8 (List.mem_of_getElem? (i := 116) rfl)) rfl
theorem we_X12_colours : Cond.selects "RopeDanceModel" yX12_colours yX12_colours ∈ lw_g := xg (xin_8 (List.mem_of_getElem? (i := 117) rfl)) rfl
theorem wm_L_108 : Cond.methodLink "RopeDanceLaw" (108 : Nat) ({ cls := "RopeDanceModel", name := "colours", desc := "(II)I" } : Jvm.MethodName) ∈ lw_g := xg (xin_8 (List.mem_of_getElem? (i := 115) rfl)) rfl
theorem wk_X11_joined : Cond.code ({ cls := "RopeDance", name := "joined", desc := "(II)I" } : Jvm.MethodName) prog_1_method_24_code (5 : Nat) (Option.some Jvm.ClassFile.FieldType.int) ∈ lw_g := xg (xin_5 (List.mem_of_getElem? (i := 68) rfl)) rfl
theorem MK_X11_joined : MK yX11_joined bX11_joined 5 (some .int) 2 := ⟨wn_X11, wk_X11_joined, ⟨by decide, by decide, by decide +kernel⟩, by decide⟩
theorem wi_X11_joined : Cond.instanceMethod ({ cls := "RopeDance", name := "joined", desc := "(II)I" } : Jvm.MethodName) ∈ lw_g := xg (xin_5 (List.mem_of_getElem? (i := 66) rfl)) rfl
theorem we_X11_joined : Cond.selects "RopeDance" yX11_joined yX11_joined ∈ lw_g := xg (xin_5 (List.mem_of_getElem? (i := 67) rfl)) rfl
theorem wm_L_109 : Cond.methodLink "RopeDanceLaw" (109 : Nat) ({ cls := "RopeDance", name := "joined", desc := "(II)I" } : Jvm.MethodName) ∈ lw_g := xg (xin_5 (List.mem_of_getElem? (i := 65) rfl)) rfl
theorem wk_X12_joined : Cond.code ({ cls := "RopeDanceModel", name := "joined", desc := "(II)I" } : Jvm.MethodName) prog_14_method_95_code (3 : Nat) (Option.some Jvm.ClassFile.FieldType.int) ∈ lw_g := xg (xin_8 (List.mem_of_getElem? (i := 122) rfl)) rfl
theorem MK_X12_joined : MK yX12_joined bX12_joined 3 (some .int) 2 := ⟨wn_X12, wk_X12_joined, ⟨by decide, by decide, by decide +kernel⟩, by decide⟩
theorem wi_X12_joined : Cond.instanceMethod ({ cls := "RopeDanceModel", name := "joined", desc := "(II)I" } : Jvm.MethodName) ∈ lw_g := xg (xin_8 (List.mem_of_getElem? (i := 120) rfl)) rfl
theorem we_X12_joined : Cond.selects "RopeDanceModel" yX12_joined yX12_joined ∈ lw_g := xg (xin_8 (List.mem_of_getElem? (i := 121) rfl)) rfl
theorem wm_L_112 : Cond.methodLink "RopeDanceLaw" (112 : Nat) ({ cls := "RopeDanceModel", name := "joined", desc := "(II)I" } : Jvm.MethodName) ∈ lw_g := xg (xin_8 (List.mem_of_getElem? (i := 119) rfl)) rfl
theorem wk_X11_order : Cond.code ({ cls := "RopeDance", name := "order", desc := "(I)I" } : Jvm.MethodName) prog_1_method_25_code (3 : Nat) (Option.some Jvm.ClassFile.FieldType.int) ∈ lw_g := xg (xin_5 (List.mem_of_getElem? (i := 73) rfl)) rfl
theorem MK_X11_order : MK yX11_order bX11_order 3 (some .int) 1 := ⟨wn_X11, wk_X11_order, ⟨by decide, by decide, by decide +kernel⟩, by decide⟩
theorem wi_X11_order : Cond.instanceMethod ({ cls := "RopeDance", name := "order", desc := "(I)I" } : Jvm.MethodName) ∈ lw_g := xg (xin_5 (List.mem_of_getElem? (i := 71) rfl)) rfl
theorem we_X11_order : Cond.selects "RopeDance" yX11_order yX11_order ∈ lw_g := xg (xin_5 (List.mem_of_getElem? (i := 72) rfl)) rfl
theorem wm_L_113 : Cond.methodLink "RopeDanceLaw" (113 : Nat) ({ cls := "RopeDance", name := "order", desc := "(I)I" } : Jvm.MethodName) ∈ lw_g := xg (xin_5 (List.mem_of_getElem? (i := 70) rfl)) rfl
theorem wk_X12_order : Cond.code ({ cls := "RopeDanceModel", name := "order", desc := "(I)I" } : Jvm.MethodName) prog_14_method_102_code (3 : Nat) (Option.some Jvm.ClassFile.FieldType.int) ∈ lw_g := xg (xin_8 (List.mem_of_getElem? (i := 147) rfl)) rfl
theorem MK_X12_order : MK yX12_order bX12_order 3 (some .int) 1 := ⟨wn_X12, wk_X12_order, ⟨by decide, by decide, by decide +kernel⟩, by decide⟩
theorem wi_X12_order : Cond.instanceMethod ({ cls := "RopeDanceModel", name := "order", desc := "(I)I" } : Jvm.MethodName) ∈ lw_g := xg (xin_8 (List.mem_of_getElem? (i := 145) rfl)) rfl
theorem we_X12_order : Cond.selects "RopeDanceModel" yX12_order yX12_order ∈ lw_g := xg (xin_8 (List.mem_of_getElem? (i := 146) rfl)) rfl
theorem wm_L_116 : Cond.methodLink "RopeDanceLaw" (116 : Nat) ({ cls := "RopeDanceModel", name := "order", desc := "(I)I" } : Jvm.MethodName) ∈ lw_g := xg (xin_8 (List.mem_of_getElem? (i := 144) rfl)) rfl
theorem wk_X11_round : Cond.code ({ cls := "RopeDance", name := "round", desc := "(II)I" } : Jvm.MethodName) prog_1_method_26_code (4 : Nat) (Option.some Jvm.ClassFile.FieldType.int) ∈ lw_g := xg (xin_5 (List.mem_of_getElem? (i := 85) rfl)) rfl
theorem MK_X11_round : MK yX11_round bX11_round 4 (some .int) 2 := ⟨wn_X11, wk_X11_round, ⟨by decide, by decide, by decide +kernel⟩, by decide⟩
theorem wi_X11_round : Cond.instanceMethod ({ cls := "RopeDance", name := "round", desc := "(II)I" } : Jvm.MethodName) ∈ lw_g := xg (xin_5 (List.mem_of_getElem? (i := 83) rfl)) rfl
theorem we_X11_round : Cond.selects "RopeDance" yX11_round yX11_round ∈ lw_g := xg (xin_5 (List.mem_of_getElem? (i := 84) rfl)) rfl
theorem wm_L_117 : Cond.methodLink "RopeDanceLaw" (117 : Nat) ({ cls := "RopeDance", name := "round", desc := "(II)I" } : Jvm.MethodName) ∈ lw_g := xg (xin_5 (List.mem_of_getElem? (i := 82) rfl)) rfl
theorem wk_X12_round : Cond.code ({ cls := "RopeDanceModel", name := "round", desc := "(II)I" } : Jvm.MethodName) prog_14_method_107_code (5 : Nat) (Option.some Jvm.ClassFile.FieldType.int) ∈ lw_g := xg (xin_8 (List.mem_of_getElem? (i := 155) rfl)) rfl
theorem MK_X12_round : MK yX12_round bX12_round 5 (some .int) 2 := ⟨wn_X12, wk_X12_round, ⟨by decide, by decide, by decide +kernel⟩, by decide⟩
theorem wi_X12_round : Cond.instanceMethod ({ cls := "RopeDanceModel", name := "round", desc := "(II)I" } : Jvm.MethodName) ∈ lw_g := xg (xin_8 (List.mem_of_getElem? (i := 153) rfl)) rfl
theorem we_X12_round : Cond.selects "RopeDanceModel" yX12_round yX12_round ∈ lw_g := xg (xin_8 (List.mem_of_getElem? (i := 154) rfl)) rfl
theorem wm_L_120 : Cond.methodLink "RopeDanceLaw" (120 : Nat) ({ cls := "RopeDanceModel", name := "round", desc := "(II)I" } : Jvm.MethodName) ∈ lw_g := xg (xin_8 (List.mem_of_getElem? (i := 152) rfl)) rfl
theorem wk_X11_power : Cond.code ({ cls := "RopeDance", name := "power", desc := "(IIII)I" } : Jvm.MethodName) prog_1_method_27_code (7 : Nat) (Option.some Jvm.ClassFile.FieldType.int) ∈ lw_g := xg (xin_5 (List.mem_of_getElem? (i := 108) rfl)) rfl
theorem MK_X11_power : MK yX11_power bX11_power 7 (some .int) 4 := ⟨wn_X11, wk_X11_power, ⟨by decide, by decide, by decide +kernel⟩, by decide⟩
theorem wi_X11_power : Cond.instanceMethod ({ cls := "RopeDance", name := "power", desc := "(IIII)I" } : Jvm.MethodName) ∈ lw_g := xg (xin_5 (List.mem_of_getElem? (i := 106) rfl)) rfl
theorem we_X11_power : Cond.selects "RopeDance" yX11_power yX11_power ∈ lw_g := xg (xin_5 (List.mem_of_getElem? (i := 107) rfl)) rfl
theorem wm_L_121 : Cond.methodLink "RopeDanceLaw" (121 : Nat) ({ cls := "RopeDance", name := "power", desc := "(IIII)I" } : Jvm.MethodName) ∈ lw_g := xg (xin_5 (List.mem_of_getElem? (i := 105) rfl)) rfl
theorem wk_X12_power : Cond.code ({ cls := "RopeDanceModel", name := "power", desc := "(IIII)I" } : Jvm.MethodName) prog_14_method_108_code (6 : Nat) (Option.some Jvm.ClassFile.FieldType.int) ∈ lw_g := xg (xin_8 (List.mem_of_getElem? (i := 170) rfl)) rfl
theorem MK_X12_power : MK yX12_power bX12_power 6 (some .int) 4 := ⟨wn_X12, wk_X12_power, ⟨by decide, by decide, by decide +kernel⟩, by decide⟩
theorem wi_X12_power : Cond.instanceMethod ({ cls := "RopeDanceModel", name := "power", desc := "(IIII)I" } : Jvm.MethodName) ∈ lw_g := xg (xin_8 (List.mem_of_getElem? (i := 168) rfl)) rfl
theorem we_X12_power : Cond.selects "RopeDanceModel" yX12_power yX12_power ∈ lw_g := xg (xin_8 (List.mem_of_getElem? (i := 169) rfl)) rfl
theorem wm_L_125 : Cond.methodLink "RopeDanceLaw" (125 : Nat) ({ cls := "RopeDanceModel", name := "power", desc := "(IIII)I" } : Jvm.MethodName) ∈ lw_g := xg (xin_8 (List.mem_of_getElem? (i := 167) rfl)) rfl
theorem wk_X11_stays : Cond.code ({ cls := "RopeDance", name := "stays", desc := "(II)I" } : Jvm.MethodName) prog_1_method_28_code (5 : Nat) (Option.some Jvm.ClassFile.FieldType.int) ∈ lw_g := xg (xin_5 (List.mem_of_getElem? (i := 113) rfl)) rfl
theorem MK_X11_stays : MK yX11_stays bX11_stays 5 (some .int) 2 := ⟨wn_X11, wk_X11_stays, ⟨by decide, by decide, by decide +kernel⟩, by decide⟩
theorem wi_X11_stays : Cond.instanceMethod ({ cls := "RopeDance", name := "stays", desc := "(II)I" } : Jvm.MethodName) ∈ lw_g := xg (xin_5 (List.mem_of_getElem? (i := 111) rfl)) rfl
theorem we_X11_stays : Cond.selects "RopeDance" yX11_stays yX11_stays ∈ lw_g := xg (xin_5 (List.mem_of_getElem? (i := 112) rfl)) rfl
theorem wm_L_126 : Cond.methodLink "RopeDanceLaw" (126 : Nat) ({ cls := "RopeDance", name := "stays", desc := "(II)I" } : Jvm.MethodName) ∈ lw_g := xg (xin_5 (List.mem_of_getElem? (i := 110) rfl)) rfl
theorem wk_X12_stays : Cond.code ({ cls := "RopeDanceModel", name := "stays", desc := "(II)I" } : Jvm.MethodName) prog_14_method_110_code (7 : Nat) (Option.some Jvm.ClassFile.FieldType.int) ∈ lw_g := xg (xin_8 (List.mem_of_getElem? (i := 179) rfl)) rfl
theorem MK_X12_stays : MK yX12_stays bX12_stays 7 (some .int) 2 := ⟨wn_X12, wk_X12_stays, ⟨by decide, by decide, by decide +kernel⟩, by decide⟩
theorem wi_X12_stays : Cond.instanceMethod ({ cls := "RopeDanceModel", name := "stays", desc := "(II)I" } : Jvm.MethodName) ∈ lw_g := xg (xin_8 (List.mem_of_getElem? (i := 177) rfl)) rfl
theorem we_X12_stays : Cond.selects "RopeDanceModel" yX12_stays yX12_stays ∈ lw_g := xg (xin_8 (List.mem_of_getElem? (i := 178) rfl)) rfl
theorem wm_L_129 : Cond.methodLink "RopeDanceLaw" (129 : Nat) ({ cls := "RopeDanceModel", name := "stays", desc := "(II)I" } : Jvm.MethodName) ∈ lw_g := xg (xin_8 (List.mem_of_getElem? (i := 176) rfl)) rfl
theorem wk_X11_mind : Cond.code ({ cls := "RopeDance", name := "mind", desc := "(II)I" } : Jvm.MethodName) prog_1_method_29_code (5 : Nat) (Option.some Jvm.ClassFile.FieldType.int) ∈ lw_g := xg (xin_5 (List.mem_of_getElem? (i := 126) rfl)) rfl
theorem MK_X11_mind : MK yX11_mind bX11_mind 5 (some .int) 2 := ⟨wn_X11, wk_X11_mind, ⟨by decide, by decide, by decide +kernel⟩, by decide⟩
theorem wi_X11_mind : Cond.instanceMethod ({ cls := "RopeDance", name := "mind", desc := "(II)I" } : Jvm.MethodName) ∈ lw_g := xg (xin_5 (List.mem_of_getElem? (i := 124) rfl)) rfl
theorem we_X11_mind : Cond.selects "RopeDance" yX11_mind yX11_mind ∈ lw_g := xg (xin_5 (List.mem_of_getElem? (i := 125) rfl)) rfl
theorem wm_L_130 : Cond.methodLink "RopeDanceLaw" (130 : Nat) ({ cls := "RopeDance", name := "mind", desc := "(II)I" } : Jvm.MethodName) ∈ lw_g := xg (xin_5 (List.mem_of_getElem? (i := 123) rfl)) rfl
theorem wk_X12_mind : Cond.code ({ cls := "RopeDanceModel", name := "mind", desc := "(II)I" } : Jvm.MethodName) prog_14_method_111_code (7 : Nat) (Option.some Jvm.ClassFile.FieldType.int) ∈ lw_g := xg (xin_8 (List.mem_of_getElem? (i := 187) rfl)) rfl
theorem MK_X12_mind : MK yX12_mind bX12_mind 7 (some .int) 2 := ⟨wn_X12, wk_X12_mind, ⟨by decide, by decide, by decide +kernel⟩, by decide⟩
theorem wi_X12_mind : Cond.instanceMethod ({ cls := "RopeDanceModel", name := "mind", desc := "(II)I" } : Jvm.MethodName) ∈ lw_g := xg (xin_8 (List.mem_of_getElem? (i := 185) rfl)) rfl
theorem we_X12_mind : Cond.selects "RopeDanceModel" yX12_mind yX12_mind ∈ lw_g := xg (xin_8 (List.mem_of_getElem? (i := 186) rfl)) rfl
theorem wm_L_133 : Cond.methodLink "RopeDanceLaw" (133 : Nat) ({ cls := "RopeDanceModel", name := "mind", desc := "(II)I" } : Jvm.MethodName) ∈ lw_g := xg (xin_8 (List.mem_of_getElem? (i := 184) rfl)) rfl
theorem wk_X11_reverse : Cond.code ({ cls := "RopeDance", name := "reverse", desc := "(I)I" } : Jvm.MethodName) prog_1_method_30_code (4 : Nat) (Option.some Jvm.ClassFile.FieldType.int) ∈ lw_g := xg (xin_5 (List.mem_of_getElem? (i := 135) rfl)) rfl
theorem MK_X11_reverse : MK yX11_reverse bX11_reverse 4 (some .int) 1 := ⟨wn_X11, wk_X11_reverse, ⟨by decide, by decide, by decide +kernel⟩, by decide⟩
theorem wi_X11_reverse : Cond.instanceMethod ({ cls := "RopeDance", name := "reverse", desc := "(I)I" } : Jvm.MethodName) ∈ lw_g := xg (xin_5 (List.mem_of_getElem? (i := 133) rfl)) rfl
theorem we_X11_reverse : Cond.selects "RopeDance" yX11_reverse yX11_reverse ∈ lw_g := xg (xin_5 (List.mem_of_getElem? (i := 134) rfl)) rfl
theorem wm_L_134 : Cond.methodLink "RopeDanceLaw" (134 : Nat) ({ cls := "RopeDance", name := "reverse", desc := "(I)I" } : Jvm.MethodName) ∈ lw_g := xg (xin_5 (List.mem_of_getElem? (i := 132) rfl)) rfl
theorem wk_X12_reverse : Cond.code ({ cls := "RopeDanceModel", name := "reverse", desc := "(I)I" } : Jvm.MethodName) prog_14_method_112_code (3 : Nat) (Option.some Jvm.ClassFile.FieldType.int) ∈ lw_g := xg (xin_8 (List.mem_of_getElem? (i := 191) rfl)) rfl
theorem MK_X12_reverse : MK yX12_reverse bX12_reverse 3 (some .int) 1 := ⟨wn_X12, wk_X12_reverse, ⟨by decide, by decide, by decide +kernel⟩, by decide⟩
theorem wi_X12_reverse : Cond.instanceMethod ({ cls := "RopeDanceModel", name := "reverse", desc := "(I)I" } : Jvm.MethodName) ∈ lw_g := xg (xin_8 (List.mem_of_getElem? (i := 189) rfl)) rfl
theorem we_X12_reverse : Cond.selects "RopeDanceModel" yX12_reverse yX12_reverse ∈ lw_g := xg (xin_8 (List.mem_of_getElem? (i := 190) rfl)) rfl
theorem wm_L_137 : Cond.methodLink "RopeDanceLaw" (137 : Nat) ({ cls := "RopeDanceModel", name := "reverse", desc := "(I)I" } : Jvm.MethodName) ∈ lw_g := xg (xin_8 (List.mem_of_getElem? (i := 188) rfl)) rfl
theorem wk_X11_hands : Cond.code ({ cls := "RopeDance", name := "hands", desc := "(II)I" } : Jvm.MethodName) prog_1_method_31_code (4 : Nat) (Option.some Jvm.ClassFile.FieldType.int) ∈ lw_g := xg (xin_5 (List.mem_of_getElem? (i := 139) rfl)) rfl
theorem MK_X11_hands : MK yX11_hands bX11_hands 4 (some .int) 2 := ⟨wn_X11, wk_X11_hands, ⟨by decide, by decide, by decide +kernel⟩, by decide⟩
theorem wi_X11_hands : Cond.instanceMethod ({ cls := "RopeDance", name := "hands", desc := "(II)I" } : Jvm.MethodName) ∈ lw_g := xg (xin_5 (List.mem_of_getElem? (i := 137) rfl)) rfl
theorem we_X11_hands : Cond.selects "RopeDance" yX11_hands yX11_hands ∈ lw_g := xg (xin_5 (List.mem_of_getElem? (i := 138) rfl)) rfl
theorem wm_L_138 : Cond.methodLink "RopeDanceLaw" (138 : Nat) ({ cls := "RopeDance", name := "hands", desc := "(II)I" } : Jvm.MethodName) ∈ lw_g := xg (xin_5 (List.mem_of_getElem? (i := 136) rfl)) rfl
theorem wk_X12_hands : Cond.code ({ cls := "RopeDanceModel", name := "hands", desc := "(II)I" } : Jvm.MethodName) prog_14_method_113_code (7 : Nat) (Option.some Jvm.ClassFile.FieldType.int) ∈ lw_g := xg (xin_8 (List.mem_of_getElem? (i := 195) rfl)) rfl
theorem MK_X12_hands : MK yX12_hands bX12_hands 7 (some .int) 2 := ⟨wn_X12, wk_X12_hands, ⟨by decide, by decide, by decide +kernel⟩, by decide⟩
theorem wi_X12_hands : Cond.instanceMethod ({ cls := "RopeDanceModel", name := "hands", desc := "(II)I" } : Jvm.MethodName) ∈ lw_g := xg (xin_8 (List.mem_of_getElem? (i := 193) rfl)) rfl
theorem we_X12_hands : Cond.selects "RopeDanceModel" yX12_hands yX12_hands ∈ lw_g := xg (xin_8 (List.mem_of_getElem? (i := 194) rfl)) rfl
theorem wm_L_141 : Cond.methodLink "RopeDanceLaw" (141 : Nat) ({ cls := "RopeDanceModel", name := "hands", desc := "(II)I" } : Jvm.MethodName) ∈ lw_g := xg (xin_8 (List.mem_of_getElem? (i := 192) rfl)) rfl
theorem wk_X11_then : Cond.code ({ cls := "RopeDance", name := "then", desc := "(III)I" } : Jvm.MethodName) prog_1_method_32_code (5 : Nat) (Option.some Jvm.ClassFile.FieldType.int) ∈ lw_g := xg (xin_5 (List.mem_of_getElem? (i := 148) rfl)) rfl
theorem MK_X11_then : MK yX11_then bX11_then 5 (some .int) 3 := ⟨wn_X11, wk_X11_then, ⟨by decide, by decide, by decide +kernel⟩, by decide⟩
theorem wi_X11_then : Cond.instanceMethod ({ cls := "RopeDance", name := "then", desc := "(III)I" } : Jvm.MethodName) ∈ lw_g := xg (xin_5 (List.mem_of_getElem? (i := 146) rfl)) rfl
theorem we_X11_then : Cond.selects "RopeDance" yX11_then yX11_then ∈ lw_g := xg (xin_5 (List.mem_of_getElem? (i := 147) rfl)) rfl
theorem wm_L_142 : Cond.methodLink "RopeDanceLaw" (142 : Nat) ({ cls := "RopeDance", name := "then", desc := "(III)I" } : Jvm.MethodName) ∈ lw_g := xg (xin_5 (List.mem_of_getElem? (i := 145) rfl)) rfl
theorem wk_X12_then : Cond.code ({ cls := "RopeDanceModel", name := "then", desc := "(III)I" } : Jvm.MethodName) prog_14_method_114_code (4 : Nat) (Option.some Jvm.ClassFile.FieldType.int) ∈ lw_g := xg (xin_8 (List.mem_of_getElem? (i := 199) rfl)) rfl
theorem MK_X12_then : MK yX12_then bX12_then 4 (some .int) 3 := ⟨wn_X12, wk_X12_then, ⟨by decide, by decide, by decide +kernel⟩, by decide⟩
theorem wi_X12_then : Cond.instanceMethod ({ cls := "RopeDanceModel", name := "then", desc := "(III)I" } : Jvm.MethodName) ∈ lw_g := xg (xin_8 (List.mem_of_getElem? (i := 197) rfl)) rfl
theorem we_X12_then : Cond.selects "RopeDanceModel" yX12_then yX12_then ∈ lw_g := xg (xin_8 (List.mem_of_getElem? (i := 198) rfl)) rfl
theorem wm_L_145 : Cond.methodLink "RopeDanceLaw" (145 : Nat) ({ cls := "RopeDanceModel", name := "then", desc := "(III)I" } : Jvm.MethodName) ∈ lw_g := xg (xin_8 (List.mem_of_getElem? (i := 196) rfl)) rfl
theorem wk_X11_year : Cond.code ({ cls := "RopeDance", name := "year", desc := "(III)I" } : Jvm.MethodName) prog_1_method_33_code (7 : Nat) (Option.some Jvm.ClassFile.FieldType.int) ∈ lw_g := xg (xin_5 (List.mem_of_getElem? (i := 162) rfl)) rfl
theorem MK_X11_year : MK yX11_year bX11_year 7 (some .int) 3 := ⟨wn_X11, wk_X11_year, ⟨by decide, by decide, by decide +kernel⟩, by decide⟩
theorem wi_X11_year : Cond.instanceMethod ({ cls := "RopeDance", name := "year", desc := "(III)I" } : Jvm.MethodName) ∈ lw_g := xg (xin_5 (List.mem_of_getElem? (i := 160) rfl)) rfl
theorem we_X11_year : Cond.selects "RopeDance" yX11_year yX11_year ∈ lw_g := xg (xin_5 (List.mem_of_getElem? (i := 161) rfl)) rfl
theorem wm_L_146 : Cond.methodLink "RopeDanceLaw" (146 : Nat) ({ cls := "RopeDance", name := "year", desc := "(III)I" } : Jvm.MethodName) ∈ lw_g := xg (xin_5 (List.mem_of_getElem? (i := 159) rfl)) rfl
theorem wk_X12_year : Cond.code ({ cls := "RopeDanceModel", name := "year", desc := "(III)I" } : Jvm.MethodName) prog_14_method_115_code (6 : Nat) (Option.some Jvm.ClassFile.FieldType.int) ∈ lw_g := xg (xin_8 (List.mem_of_getElem? (i := 203) rfl)) rfl
theorem MK_X12_year : MK yX12_year bX12_year 6 (some .int) 3 := ⟨wn_X12, wk_X12_year, ⟨by decide, by decide, by decide +kernel⟩, by decide⟩
theorem wi_X12_year : Cond.instanceMethod ({ cls := "RopeDanceModel", name := "year", desc := "(III)I" } : Jvm.MethodName) ∈ lw_g := xg (xin_8 (List.mem_of_getElem? (i := 201) rfl)) rfl
theorem we_X12_year : Cond.selects "RopeDanceModel" yX12_year yX12_year ∈ lw_g := xg (xin_8 (List.mem_of_getElem? (i := 202) rfl)) rfl
theorem wm_L_149 : Cond.methodLink "RopeDanceLaw" (149 : Nat) ({ cls := "RopeDanceModel", name := "year", desc := "(III)I" } : Jvm.MethodName) ∈ lw_g := xg (xin_8 (List.mem_of_getElem? (i := 200) rfl)) rfl
theorem wk_X11_tell : Cond.code ({ cls := "RopeDance", name := "tell", desc := "(IIZ)I" } : Jvm.MethodName) prog_1_method_34_code (4 : Nat) (Option.some Jvm.ClassFile.FieldType.int) ∈ lw_g := xg (xin_5 (List.mem_of_getElem? (i := 166) rfl)) rfl
theorem MK_X11_tell : MK yX11_tell bX11_tell 4 (some .int) 3 := ⟨wn_X11, wk_X11_tell, ⟨by decide, by decide, by decide +kernel⟩, by decide⟩
theorem wi_X11_tell : Cond.instanceMethod ({ cls := "RopeDance", name := "tell", desc := "(IIZ)I" } : Jvm.MethodName) ∈ lw_g := xg (xin_5 (List.mem_of_getElem? (i := 164) rfl)) rfl
theorem we_X11_tell : Cond.selects "RopeDance" yX11_tell yX11_tell ∈ lw_g := xg (xin_5 (List.mem_of_getElem? (i := 165) rfl)) rfl
theorem wm_L_150 : Cond.methodLink "RopeDanceLaw" (150 : Nat) ({ cls := "RopeDance", name := "tell", desc := "(IIZ)I" } : Jvm.MethodName) ∈ lw_g := xg (xin_5 (List.mem_of_getElem? (i := 163) rfl)) rfl
theorem wk_X12_tell : Cond.code ({ cls := "RopeDanceModel", name := "tell", desc := "(IIZ)I" } : Jvm.MethodName) prog_14_method_116_code (4 : Nat) (Option.some Jvm.ClassFile.FieldType.int) ∈ lw_g := xg (xin_8 (List.mem_of_getElem? (i := 207) rfl)) rfl
theorem MK_X12_tell : MK yX12_tell bX12_tell 4 (some .int) 3 := ⟨wn_X12, wk_X12_tell, ⟨by decide, by decide, by decide +kernel⟩, by decide⟩
theorem wi_X12_tell : Cond.instanceMethod ({ cls := "RopeDanceModel", name := "tell", desc := "(IIZ)I" } : Jvm.MethodName) ∈ lw_g := xg (xin_8 (List.mem_of_getElem? (i := 205) rfl)) rfl
theorem we_X12_tell : Cond.selects "RopeDanceModel" yX12_tell yX12_tell ∈ lw_g := xg (xin_8 (List.mem_of_getElem? (i := 206) rfl)) rfl
theorem wm_L_154 : Cond.methodLink "RopeDanceLaw" (154 : Nat) ({ cls := "RopeDanceModel", name := "tell", desc := "(IIZ)I" } : Jvm.MethodName) ∈ lw_g := xg (xin_8 (List.mem_of_getElem? (i := 204) rfl)) rfl
theorem wk_X11_forget : Cond.code ({ cls := "RopeDance", name := "forget", desc := "()I" } : Jvm.MethodName) prog_1_method_35_code (2 : Nat) (Option.some Jvm.ClassFile.FieldType.int) ∈ lw_g := xg (xin_5 (List.mem_of_getElem? (i := 174) rfl)) rfl
theorem MK_X11_forget : MK yX11_forget bX11_forget 2 (some .int) 0 := ⟨wn_X11, wk_X11_forget, ⟨by decide, by decide, by decide +kernel⟩, by decide⟩
theorem wi_X11_forget : Cond.instanceMethod ({ cls := "RopeDance", name := "forget", desc := "()I" } : Jvm.MethodName) ∈ lw_g := xg (xin_5 (List.mem_of_getElem? (i := 172) rfl)) rfl
theorem we_X11_forget : Cond.selects "RopeDance" yX11_forget yX11_forget ∈ lw_g := xg (xin_5 (List.mem_of_getElem? (i := 173) rfl)) rfl
theorem wm_L_155 : Cond.methodLink "RopeDanceLaw" (155 : Nat) ({ cls := "RopeDance", name := "forget", desc := "()I" } : Jvm.MethodName) ∈ lw_g := xg (xin_5 (List.mem_of_getElem? (i := 171) rfl)) rfl
theorem wk_X12_forget : Cond.code ({ cls := "RopeDanceModel", name := "forget", desc := "()I" } : Jvm.MethodName) prog_14_method_117_code (2 : Nat) (Option.some Jvm.ClassFile.FieldType.int) ∈ lw_g := xg (xin_8 (List.mem_of_getElem? (i := 211) rfl)) rfl
theorem MK_X12_forget : MK yX12_forget bX12_forget 2 (some .int) 0 := ⟨wn_X12, wk_X12_forget, ⟨by decide, by decide, by decide +kernel⟩, by decide⟩
theorem wi_X12_forget : Cond.instanceMethod ({ cls := "RopeDanceModel", name := "forget", desc := "()I" } : Jvm.MethodName) ∈ lw_g := xg (xin_8 (List.mem_of_getElem? (i := 209) rfl)) rfl
theorem we_X12_forget : Cond.selects "RopeDanceModel" yX12_forget yX12_forget ∈ lw_g := xg (xin_8 (List.mem_of_getElem? (i := 210) rfl)) rfl
theorem wm_L_158 : Cond.methodLink "RopeDanceLaw" (158 : Nat) ({ cls := "RopeDanceModel", name := "forget", desc := "()I" } : Jvm.MethodName) ∈ lw_g := xg (xin_8 (List.mem_of_getElem? (i := 208) rfl)) rfl
theorem wk_X11_rows : Cond.code ({ cls := "RopeDance", name := "rows", desc := "(IIII)I" } : Jvm.MethodName) prog_1_method_36_code (6 : Nat) (Option.some Jvm.ClassFile.FieldType.int) ∈ lw_g := xg (xin_5 (List.mem_of_getElem? (i := 178) rfl)) rfl
theorem MK_X11_rows : MK yX11_rows bX11_rows 6 (some .int) 4 := ⟨wn_X11, wk_X11_rows, ⟨by decide, by decide, by decide +kernel⟩, by decide⟩
theorem wi_X11_rows : Cond.instanceMethod ({ cls := "RopeDance", name := "rows", desc := "(IIII)I" } : Jvm.MethodName) ∈ lw_g := xg (xin_5 (List.mem_of_getElem? (i := 176) rfl)) rfl
theorem we_X11_rows : Cond.selects "RopeDance" yX11_rows yX11_rows ∈ lw_g := xg (xin_5 (List.mem_of_getElem? (i := 177) rfl)) rfl
theorem wm_L_159 : Cond.methodLink "RopeDanceLaw" (159 : Nat) ({ cls := "RopeDance", name := "rows", desc := "(IIII)I" } : Jvm.MethodName) ∈ lw_g := xg (xin_5 (List.mem_of_getElem? (i := 175) rfl)) rfl
theorem wk_X12_rows : Cond.code ({ cls := "RopeDanceModel", name := "rows", desc := "(IIII)I" } : Jvm.MethodName) prog_14_method_121_code (8 : Nat) (Option.some Jvm.ClassFile.FieldType.int) ∈ lw_g := xg (xin_8 (List.mem_of_getElem? (i := 215) rfl)) rfl
theorem MK_X12_rows : MK yX12_rows bX12_rows 8 (some .int) 4 := ⟨wn_X12, wk_X12_rows, ⟨by decide, by decide, by decide +kernel⟩, by decide⟩
theorem wi_X12_rows : Cond.instanceMethod ({ cls := "RopeDanceModel", name := "rows", desc := "(IIII)I" } : Jvm.MethodName) ∈ lw_g := xg (xin_8 (List.mem_of_getElem? (i := 213) rfl)) rfl
theorem we_X12_rows : Cond.selects "RopeDanceModel" yX12_rows yX12_rows ∈ lw_g := xg (xin_8 (List.mem_of_getElem? (i := 214) rfl)) rfl
theorem wm_L_162 : Cond.methodLink "RopeDanceLaw" (162 : Nat) ({ cls := "RopeDanceModel", name := "rows", desc := "(IIII)I" } : Jvm.MethodName) ∈ lw_g := xg (xin_8 (List.mem_of_getElem? (i := 212) rfl)) rfl
theorem wk_X11_listen : Cond.code ({ cls := "RopeDance", name := "listen", desc := "(III)I" } : Jvm.MethodName) prog_1_method_37_code (5 : Nat) (Option.some Jvm.ClassFile.FieldType.int) ∈ lw_g := xg (xin_5 (List.mem_of_getElem? (i := 205) rfl)) rfl
theorem MK_X11_listen : MK yX11_listen bX11_listen 5 (some .int) 3 := ⟨wn_X11, wk_X11_listen, ⟨by decide, by decide, by decide +kernel⟩, by decide⟩
theorem wi_X11_listen : Cond.instanceMethod ({ cls := "RopeDance", name := "listen", desc := "(III)I" } : Jvm.MethodName) ∈ lw_g := xg (xin_5 (List.mem_of_getElem? (i := 203) rfl)) rfl
theorem we_X11_listen : Cond.selects "RopeDance" yX11_listen yX11_listen ∈ lw_g := xg (xin_5 (List.mem_of_getElem? (i := 204) rfl)) rfl
theorem wm_L_163 : Cond.methodLink "RopeDanceLaw" (163 : Nat) ({ cls := "RopeDance", name := "listen", desc := "(III)I" } : Jvm.MethodName) ∈ lw_g := xg (xin_5 (List.mem_of_getElem? (i := 202) rfl)) rfl
theorem wk_X12_listen : Cond.code ({ cls := "RopeDanceModel", name := "listen", desc := "(III)I" } : Jvm.MethodName) prog_14_method_122_code (10 : Nat) (Option.some Jvm.ClassFile.FieldType.int) ∈ lw_g := xg (xin_8 (List.mem_of_getElem? (i := 231) rfl)) rfl
theorem MK_X12_listen : MK yX12_listen bX12_listen 10 (some .int) 3 := ⟨wn_X12, wk_X12_listen, ⟨by decide, by decide, by decide +kernel⟩, by decide⟩
theorem wi_X12_listen : Cond.instanceMethod ({ cls := "RopeDanceModel", name := "listen", desc := "(III)I" } : Jvm.MethodName) ∈ lw_g := xg (xin_8 (List.mem_of_getElem? (i := 229) rfl)) rfl
theorem we_X12_listen : Cond.selects "RopeDanceModel" yX12_listen yX12_listen ∈ lw_g := xg (xin_8 (List.mem_of_getElem? (i := 230) rfl)) rfl
theorem wm_L_166 : Cond.methodLink "RopeDanceLaw" (166 : Nat) ({ cls := "RopeDanceModel", name := "listen", desc := "(III)I" } : Jvm.MethodName) ∈ lw_g := xg (xin_8 (List.mem_of_getElem? (i := 228) rfl)) rfl
theorem wk_X11_hold : Cond.code ({ cls := "RopeDance", name := "hold", desc := "(I)Z" } : Jvm.MethodName) prog_1_method_38_code (2 : Nat) (Option.some Jvm.ClassFile.FieldType.boolean) ∈ lw_g := xg (xin_5 (List.mem_of_getElem? (i := 214) rfl)) rfl
theorem MK_X11_hold : MK yX11_hold bX11_hold 2 (some .boolean) 1 := ⟨wn_X11, wk_X11_hold, ⟨by decide, by decide, by decide +kernel⟩, by decide⟩
theorem wi_X11_hold : Cond.instanceMethod ({ cls := "RopeDance", name := "hold", desc := "(I)Z" } : Jvm.MethodName) ∈ lw_g := xg (xin_5 (List.mem_of_getElem? (i := 212) rfl)) rfl
theorem we_X11_hold : Cond.selects "RopeDance" yX11_hold yX11_hold ∈ lw_g := xg (xin_5 (List.mem_of_getElem? (i := 213) rfl)) rfl
theorem wm_L_167 : Cond.methodLink "RopeDanceLaw" (167 : Nat) ({ cls := "RopeDance", name := "hold", desc := "(I)Z" } : Jvm.MethodName) ∈ lw_g := xg (xin_5 (List.mem_of_getElem? (i := 211) rfl)) rfl
theorem wk_X12_hold : Cond.code ({ cls := "RopeDanceModel", name := "hold", desc := "(I)Z" } : Jvm.MethodName) prog_14_method_123_code (3 : Nat) (Option.some Jvm.ClassFile.FieldType.boolean) ∈ lw_g := xg (xin_8 (List.mem_of_getElem? (i := 235) rfl)) rfl
theorem MK_X12_hold : MK yX12_hold bX12_hold 3 (some .boolean) 1 := ⟨wn_X12, wk_X12_hold, ⟨by decide, by decide, by decide +kernel⟩, by decide⟩
theorem wi_X12_hold : Cond.instanceMethod ({ cls := "RopeDanceModel", name := "hold", desc := "(I)Z" } : Jvm.MethodName) ∈ lw_g := xg (xin_8 (List.mem_of_getElem? (i := 233) rfl)) rfl
theorem we_X12_hold : Cond.selects "RopeDanceModel" yX12_hold yX12_hold ∈ lw_g := xg (xin_8 (List.mem_of_getElem? (i := 234) rfl)) rfl
theorem wm_L_170 : Cond.methodLink "RopeDanceLaw" (170 : Nat) ({ cls := "RopeDanceModel", name := "hold", desc := "(I)Z" } : Jvm.MethodName) ∈ lw_g := xg (xin_8 (List.mem_of_getElem? (i := 232) rfl)) rfl
theorem wk_X11_restore : Cond.code ({ cls := "RopeDance", name := "restore", desc := "(I)Z" } : Jvm.MethodName) prog_1_method_39_code (2 : Nat) (Option.some Jvm.ClassFile.FieldType.boolean) ∈ lw_g := xg (xin_5 (List.mem_of_getElem? (i := 222) rfl)) rfl
theorem MK_X11_restore : MK yX11_restore bX11_restore 2 (some .boolean) 1 := ⟨wn_X11, wk_X11_restore, ⟨by decide, by decide, by decide +kernel⟩, by decide⟩
theorem wi_X11_restore : Cond.instanceMethod ({ cls := "RopeDance", name := "restore", desc := "(I)Z" } : Jvm.MethodName) ∈ lw_g := xg (xin_5 (List.mem_of_getElem? (i := 220) rfl)) rfl
theorem we_X11_restore : Cond.selects "RopeDance" yX11_restore yX11_restore ∈ lw_g := xg (xin_5 (List.mem_of_getElem? (i := 221) rfl)) rfl
theorem wm_L_171 : Cond.methodLink "RopeDanceLaw" (171 : Nat) ({ cls := "RopeDance", name := "restore", desc := "(I)Z" } : Jvm.MethodName) ∈ lw_g := xg (xin_5 (List.mem_of_getElem? (i := 219) rfl)) rfl
theorem wk_X12_restore : Cond.code ({ cls := "RopeDanceModel", name := "restore", desc := "(I)Z" } : Jvm.MethodName) prog_14_method_124_code (3 : Nat) (Option.some Jvm.ClassFile.FieldType.boolean) ∈ lw_g := xg (xin_8 (List.mem_of_getElem? (i := 239) rfl)) rfl
theorem MK_X12_restore : MK yX12_restore bX12_restore 3 (some .boolean) 1 := ⟨wn_X12, wk_X12_restore, ⟨by decide, by decide, by decide +kernel⟩, by decide⟩
theorem wi_X12_restore : Cond.instanceMethod ({ cls := "RopeDanceModel", name := "restore", desc := "(I)Z" } : Jvm.MethodName) ∈ lw_g := xg (xin_8 (List.mem_of_getElem? (i := 237) rfl)) rfl
theorem we_X12_restore : Cond.selects "RopeDanceModel" yX12_restore yX12_restore ∈ lw_g := xg (xin_8 (List.mem_of_getElem? (i := 238) rfl)) rfl
theorem wm_L_174 : Cond.methodLink "RopeDanceLaw" (174 : Nat) ({ cls := "RopeDanceModel", name := "restore", desc := "(I)Z" } : Jvm.MethodName) ∈ lw_g := xg (xin_8 (List.mem_of_getElem? (i := 236) rfl)) rfl
theorem wk_X11_count : Cond.code ({ cls := "RopeDance", name := "count", desc := "(I)I" } : Jvm.MethodName) prog_1_method_40_code (2 : Nat) (Option.some Jvm.ClassFile.FieldType.int) ∈ lw_g := xg (xin_5 (List.mem_of_getElem? (i := 230) rfl)) rfl
theorem MK_X11_count : MK yX11_count bX11_count 2 (some .int) 1 := ⟨wn_X11, wk_X11_count, ⟨by decide, by decide, by decide +kernel⟩, by decide⟩
theorem wi_X11_count : Cond.instanceMethod ({ cls := "RopeDance", name := "count", desc := "(I)I" } : Jvm.MethodName) ∈ lw_g := xg (xin_5 (List.mem_of_getElem? (i := 228) rfl)) rfl
theorem we_X11_count : Cond.selects "RopeDance" yX11_count yX11_count ∈ lw_g := xg (xin_5 (List.mem_of_getElem? (i := 229) rfl)) rfl
theorem wm_L_175 : Cond.methodLink "RopeDanceLaw" (175 : Nat) ({ cls := "RopeDance", name := "count", desc := "(I)I" } : Jvm.MethodName) ∈ lw_g := xg (xin_5 (List.mem_of_getElem? (i := 227) rfl)) rfl
theorem wk_X12_count : Cond.code ({ cls := "RopeDanceModel", name := "count", desc := "(I)I" } : Jvm.MethodName) prog_14_method_126_code (4 : Nat) (Option.some Jvm.ClassFile.FieldType.int) ∈ lw_g := xg (xin_9 (List.mem_of_getElem? (i := 3) rfl)) rfl
theorem MK_X12_count : MK yX12_count bX12_count 4 (some .int) 1 := ⟨wn_X12, wk_X12_count, ⟨by decide, by decide, by decide +kernel⟩, by decide⟩
theorem wi_X12_count : Cond.instanceMethod ({ cls := "RopeDanceModel", name := "count", desc := "(I)I" } : Jvm.MethodName) ∈ lw_g := xg (xin_9 (List.mem_of_getElem? (i := 1) rfl)) rfl
theorem we_X12_count : Cond.selects "RopeDanceModel" yX12_count yX12_count ∈ lw_g := xg (xin_9 (List.mem_of_getElem? (i := 2) rfl)) rfl
theorem wm_L_178 : Cond.methodLink "RopeDanceLaw" (178 : Nat) ({ cls := "RopeDanceModel", name := "count", desc := "(I)I" } : Jvm.MethodName) ∈ lw_g := xg (xin_9 (List.mem_of_getElem? (i := 0) rfl)) rfl
