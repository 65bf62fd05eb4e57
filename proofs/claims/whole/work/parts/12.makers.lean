/-! METHODS THAT MAKE A CELL (once): the world grows -/
theorem wdr_nil {k : Kx} {μ : Mm} {H : Heap} (h : wd k μ H) : wdr k μ [] H :=
  ⟨h, fun j x hx => by simp at hx, ⟨fun i j p q hi => by simp at hi, fun i p hp => by simp at hp⟩, fun c i q _ hq => by simp at hq, fun q e x _ hx => by simp at hx⟩
def MA (l : Launch) (k : Kx) (h : Nat) (y : MethodName) (b : ByteArray) (nL : Nat) (ret : Option FieldType) (av : List Value) (L N : List (Nat × Nat)) (T : Nat × Nat) (μ : Mm) (rv : Option Value) (L' : List (Nat × Nat)) (μ' : Mm) : Prop :=
  Met l y (.code y b nL ret :: lw_g) (rmh h T) (va_Pc av (preC k L N μ [])) (qq (kL k L', T, ret, rv, μ')) T.1 T.2 (kF k)
theorem MA.of {l : Launch} {k : Kx} {h : Nat} {y : MethodName} {b : ByteArray} {nL : Nat} {ret : Option FieldType} {av : List Value} {L N L' : List (Nat × Nat)} {T : Nat × Nat} {μ μ' : Mm} {rv : Option Value} {lv : List (Nat × Value)} (hy : plainFor y = true) (hk : kok (kL k L)) (hl : (lg_sl av).length ≤ nL) (hv : lv_args 0 av = lv)
    (body : ∀ z : Zx, zl z = l → Ok z (kL k L) b nL y.cls ret h T → Oc false z k b nL y.cls h T → AL k N (zs z).heap.size → Gw z (kL k L) nL (kL k L', T, ret, rv, μ') (0, 0) 0 μ lv []) : MA l k h y b nL ret av L N T μ rv L' μ' := by
  refine xofW (cc := b) (maxL := nL) (ret := ret) hy rfl ?_
  intro p e s m args below meth c s₁ B hml hP
  obtain ⟨rfl, hw, hK, hR, hA, hF, hO⟩ := hP
  have hts := atoms_spec (ws := .code y b nL ret :: lw_g) B.pre
  have hx : Ok (p, l, e, rmh h T, s, m, av.toArray, below, meth, c) (kL k L) b nL y.cls ret h T := ⟨B.exec, B.bytes, hml, findClass_of_methodNamed B.named, fun w hw => hts w (List.mem_cons_of_mem _ hw), hK, hR, hk, B.notSynchronized, B.returns, rfl⟩
  have hc : Oc false (p, l, e, rmh h T, s, m, av.toArray, below, meth, c) k b nL y.cls h T := ⟨B.exec, B.bytes, hml, findClass_of_methodNamed B.named, fun w hw => hts w (List.mem_cons_of_mem _ hw), hK, hR, hF, B.notSynchronized, (fun q => by cases q), rfl, (fun q => by cases q), hO⟩
  have h1 := lv_entry av hl
  rw [hv] at h1
  rw [lg_entry_eq]
  exact body _ rfl hx hc hA s.heap [] _ hw.1 ⟨va_S.rf, rfl⟩ h1
theorem ok_L {z : Zx} {k : Kx} {L L' : List (Nat × Nat)} {cc : ByteArray} {nL : Nat} {own : String} {ret : Option FieldType} {h : Nat} {T : Nat × Nat} (hx : Ok z (kL k L) cc nL own ret h T) (hk : kok (kL k L')) : Ok z (kL k L') cc nL own ret h T :=
  ⟨hx.1, hx.2.1, hx.2.2.1, hx.2.2.2.1, hx.2.2.2.2.1, hx.2.2.2.2.2.1, hx.2.2.2.2.2.2.1, hk, hx.2.2.2.2.2.2.2.2.1, hx.2.2.2.2.2.2.2.2.2.1, hx.2.2.2.2.2.2.2.2.2.2⟩
theorem kok_R0 {k : Kx} {L : List (Nat × Nat)} (h : kok (kL k L)) : kok (kL (kR k []) L) :=
  ⟨h.1, fun c i q e he hq => hq.elim (h.2.1 c i q e he) (fun q => by cases q), h.2.2.1, h.2.2.2⟩
section RowsA
variable {z : Zx} {k : Kx} {cc : ByteArray} {nL : Nat} {own : String} {ret : Option FieldType} {h : Nat} {T : Nat × Nat} {E : Ez} {Q : State → Prop} {C : Nat × Nat} {μ' μ : Mm} {pc : Nat} {lv : List (Nat × Value)} {st : List Value} {L : List (Nat × Nat)}
theorem g_toC (kk : Gcq z (kL k L) nL Q C pc μ [] lv st) : Gq z (kL k L) nL Q C pc μ lv st := fun H locs ls hw hS hl => kk H locs ls (wdr_nil hw) hS hl
theorem g_C {C' : Nat × Nat} (h : C = C') (kk : Gq z k nL Q C' pc μ lv st) : Gq z k nL Q C pc μ lv st := by
  subst h
  exact kk
theorem r_put4 (hx : Ok z k cc nL own ret h T) {c i j idx c' i' : Nat} {Cn n d D : String} (hF : FK c j Cn n d 4) (hfin : ∀ (TT : u_T) (N : Nat), classes[c]? = some (Cn, TT, N) → (TT j).2.2.2 = false) (he : kex k c i) (hl : Cond.fieldLink own idx Cn n d ∈ lw_g) (hd : parseFieldDescriptor d = some (.object D)) (hr : rt c i j = (c', i')) (he' : kex k c' i')
    (dd : decode cc pc = .ok (.putfield idx, 3)) (kk : Gq z k nL Q C (pc + 3) (si μ c i j 1) lv st) : Gq z k nL Q C pc μ lv (.ref (kad k c' i') :: .ref (kad k c i) :: st) := by
  obtain ⟨TT, N, ⟨hc, hin, ⟨ty0, hty⟩, hnm⟩, hN, hj, hT, hk4⟩ := hF
  have hff := hfin TT N hc
  injection hT with e1 e2
  injection e2 with e2 e3
  subst e1; subst e2; subst e3; subst hN
  intro H locs ls hw hS hl'
  obtain ⟨hexec, hb, -, hown, hts, hK, -, hok, -⟩ := hx
  have hap := va_apart (own := own) hts hin ty0 hty hnm hK hc
  have hcell := hw.1 c i he
  rw [cel_obj (nf_lt hj)] at hcell
  obtain ⟨r, g1, cell, q1, q2, q3, q4⟩ := hcell
  have hr' : r = _ := Option.some.inj (g1.symm.trans hc)
  subst hr'
  obtain ⟨hSl, hfc, kC, hkC, hkind⟩ := hK.1 c _ hc
  obtain ⟨cf, kf, fi, f, hi, hsl⟩ := hSl j hj
  have hlay := hts _ (hin _ (u_in_lay hj))
  unfold u_lay at hlay
  rw [if_neg (by rw [hff]; decide)] at hlay
  have hst := (u_facts hfc hkC (u_lays hts hin hj) hi).1
  have h6 := u_store hfc hkC hkind hlay hi hd (v := .ref (kad k c' i')) rfl rfl
  have hn1 : (1 : Int32) ≠ 0 := by decide
  refine W.putK hexec hb (f := f) ⟨hown, hts _ hl, ⟨_, _, _, hi⟩, hst⟩ (by rw [q2]; exact h6) q1 q3 (by rw [hsl]; exact k2_hasslot (q4 j hj)) rfl rfl dd fun H' e1 e2 e3 => ?_
  rw [hsl] at e1 ⊢
  have hset : (flds k c i (μ.1 c i) (μ.2 c i)).set j (.ref (kad k c' i')) = flds k c i ((si μ c i j 1).1 c i) ((si μ c i j 1).2 c i) := flds_set (by
      rw [mi_eq]
      simp only [fval, hk4, hr, upd, if_true]
      exact if_neg hn1) (fun t ht => by rw [mi_eq]; exact if_neg ht) (fun t ht => rfl)
  refine kk H' _ ls (wd_put hok hw he ?_ e3 (fun c' i' hne => cel_ne (mi_ne hne) rfl) ?_) ⟨hS.1.put e2 e3 (hok.2.2.1 c i he), e2.trans hS.2⟩ hl'
  · rw [cel_obj (nf_lt hj), ← hset]
    exact ⟨_, hc, t_OB.to (V := updV (vp_V (flds k c i (μ.1 c i) (μ.2 c i))) j (.ref (kad k c' i'))) ⟨_, e1, q2, q3, t_set q4 hap hj (.ref (kad k c' i'))⟩ (fun t _ => vp_updV_set (by rw [flds_len]; exact hj) (.ref (kad k c' i')) t)⟩
  · intro c2 i2 j2 hk2 he2 hg2
    by_cases hne : c2 = c ∧ i2 = i
    · obtain ⟨rfl, rfl⟩ := hne
      by_cases hj2 : j2 = j
      · subst hj2
        rw [hr]
        exact he'
      · refine hw.2.2 c2 i2 j2 hk2 he2 (fun q => hg2 ?_)
        show (si μ c2 i2 j 1).1 c2 i2 j2 = 0
        rw [mi_eq]
        exact (if_neg hj2).trans q
    · refine hw.2.2 c2 i2 j2 hk2 he2 (fun q => hg2 ?_)
      show (si μ c i j 1).1 c2 i2 j2 = 0
      rw [mi_ne hne]
      exact q
theorem r_callVa (hx : Ok z (kL k L) cc nL own ret h T) (hz : Oc false z k cc nL own h T) {st0 st1 rest As : List Value} {y : MethodName} {b : ByteArray} {nL1 n idx h1 c i N2 : Nat} {TT : u_T} {ret1 : Option FieldType} {rv1 : Option Value} {μ1 : Mm} {N L' : List (Nat × Nat)} {T1 : Nat × Nat} (hK : MK y b nL1 ret1 n) (hc : classes[c]? = some (y.cls, TT, N2)) (hi : Cond.instanceMethod y ∈ lw_g) (hs : Cond.selects y.cls y y ∈ lw_g) (hl : Cond.methodLink own idx y ∈ lw_g)
    (hCT : C.1 + T1.1 ≤ T.1 ∧ C.2 + T1.2 ≤ T.2) (hM : MA (zl z) k h1 y b nL1 ret1 (.ref (kad k c i) :: As) L N T1 μ rv1 L' μ1) (hA : AL k N ((zs z).heap.size + C.1)) (he : (c, i) ∈ L) (hh : h1 < h) (hn : As.length = n) (h0 : st0 = As.reverse ++ .ref (kad k c i) :: rest) (hst : (rest.map fun v => v.category).sum ≤ 8) (h2 : rv1.toList ++ rest = st1) (d : decode cc pc = .ok (.invokevirtual idx, 3))
    (kk : bok ret1 rv1 → Gq z (kL k L') nL Q (C.1 + T1.1, C.2 + T1.2) (pc + 3) μ1 lv st1) : Gq z (kL k L) nL Q C pc μ lv st0 := by
  subst h0; subst h2
  intro H locs ls hw hS hl' TT' hT X
  have hR := hx.2.2.2.2.2.2.2.2.2.2
  have hts := hx.2.2.2.2.1
  obtain ⟨m1, m2, ⟨m3, m4, m5⟩, m6⟩ := hK
  have hc20 : c < 20 := by
    rcases Nat.lt_or_ge c 13 with q | q
    · omega
    · exact absurd hc (by rw [List.getElem?_eq_none (by exact q)]; exact fun h => by cases h)
  have hcb : CallB (zR z) (zs z) (za z) own idx y b nL1 ret1 (.code y b nL1 ret1 :: lw_g) (rmh h1 T1) T1.1 T1.2 n := by
    refine ⟨rfl, rfl, by rw [hR]; show h1 + 1 ≤ h; omega, by rw [hR]; show 8 + (nL1 + 11) + 30 * h1 ≤ 30 * h; omega, pay_in hts (fun w hw => ?_), List.mem_cons_self, hts _ m2, hts _ m1, ⟨m3, m4⟩, fun sig hs => ?_, hts _ hl⟩
    · rcases List.mem_cons.mp hw with rfl | q
      · exact lw_gg _ m2
      · exact lw_gg _ q
    · rw [hs] at m5
      exact (Option.some.inj m5).symm
  have hP := hw.1 c i he
  rw [cel_obj hc20] at hP
  obtain ⟨q', g1, cell, g2, g3, g4, -⟩ := hP
  have hpre : ∀ U : State, U.heap = H → (zs z).WarmedH U.vm → va_Pc (.ref (kad k c i) :: As) (preC k L N μ []) (Value.ref (kad k c i) :: As).toArray U := fun U hU hW => by
    refine ⟨rfl, by rw [hU]; exact wdr_nil hw, va_K.moved hW.alike hx.2.2.2.2.2.1, ?_, ?_, ?_, ao_moved hW.alike hz.2.2.2.2.2.2.2.2.2.2.2.2⟩
    · rw [hU]
      exact rs_warm hW (rs_kept hx.2.2.2.2.2.2.1 hS.1.2.1)
    · rw [hU, hS.2]
      exact hA
    · intro q hq
      rw [hU] at hq
      exact hz.2.2.2.2.2.2.2.1 q (Nat.le_trans hS.1.1 hq)
  obtain ⟨v, st₀, t, T', L9, h0, X', hL9, e1, e2, ⟨⟨hv, hb, hw1, hsz⟩, hz9, hk⟩, st9⟩ := va_runV (As := As) (rest := rest) (g := F0 (zm z) pc ls (As.reverse ++ .ref (kad k c i) :: rest)) ⟨hx.1, hx.2.1, hx.2.2.1, hx.2.2.2.1, hts⟩ hM ⟨hcb, hts _ hi, hts _ hs⟩
    ⟨preC_blind, ⟨cell, g2, by rw [g4]; rfl, by rw [g3]; exact (hx.2.2.2.2.2.1.1 c _ hc).2.1⟩, hpre⟩ rfl hn hl'.1 rfl (lv_room hst) d (by rw [hR]; exact hCT) TT' hT X
  cases hv
  rw [h0] at hz9 hk hsz
  obtain ⟨t2, a1, b1⟩ := kk hb T'.heap (locs ++ L9) ls (by rw [e1]; exact hw1) ⟨⟨Nat.le_trans hS.1.1 (by rw [e1]; exact hz9), fun q h1 h2 => by rw [e1, hk q (Nat.lt_of_lt_of_le h1 hS.1.1) h2]; exact hS.1.2.1 q h1 h2, fun q hq => by
      rcases List.mem_append.mp hq with h | h
      · exact hS.1.2.2 q h
      · exact hL9 q h⟩, by rw [e1]; have h9 : t.heap.size = H.size + T1.1 := hsz; have := hS.2; show t.heap.size = _ + (C.1 + T1.1); omega⟩ hl' T' rfl X'
  exact ⟨t2, st9 t2 a1, b1⟩
end RowsA
abbrev nU : List (Nat × Nat) := (10, 0) :: nX10
abbrev nS : List (Nat × Nat) := (4, 0) :: nX4
def fX11_unwinding_a (F : Nat) (μ : Mm) : Option Mm := if gi μ 11 0 11 = 0 then bd1 (fX10_init F (iX10 μ)) fun m1 => some (si m1 11 0 11 1) else none
def fX11_searchFrom_a (F : Nat) (a1 : Nat) (μ : Mm) : Option Mm := if gi μ 11 0 10 = 0 then fX11_searchFrom_L18 F a1 (si (iX4 μ) 11 0 10 1) else none

theorem wcl_X11_184 : Cond.classLink "RopeDance" 184 "RopeDance$Unwinding" ∈ lw_g := xg (xin_4 (List.mem_of_getElem? (i := 160) rfl)) rfl
theorem win_X10 : Cond.instantiable "RopeDance$Unwinding" 2 ∈ lw_g := xg (xin_4 (List.mem_of_getElem? (i := 161) rfl)) rfl
theorem dX11_unwinding_8 : decode bX11_unwinding 8 = .ok (.new 184, 3) := by decide +kernel
theorem dX11_unwinding_11 : decode bX11_unwinding 11 = .ok (.dup, 1) := by decide +kernel
theorem wk_X10_init : Cond.code ({ cls := "RopeDance$Unwinding", name := "<init>", desc := "()V" } : Jvm.MethodName) prog_12_method_1_code (3 : Nat) (Option.none : Option Jvm.ClassFile.FieldType) ∈ lw_g := xg (xin_4 (List.mem_of_getElem? (i := 164) rfl)) rfl
theorem MK_X10_init : MK yX10_init bX10_init 3 none 0 := ⟨wn_X10, wk_X10_init, ⟨by decide, by decide, by decide +kernel⟩, by decide⟩
theorem wi_X10_init : Cond.instanceMethod ({ cls := "RopeDance$Unwinding", name := "<init>", desc := "()V" } : Jvm.MethodName) ∈ lw_g := xg (xin_4 (List.mem_of_getElem? (i := 163) rfl)) rfl
theorem wm_X11_343 : Cond.methodLink "RopeDance" (343 : Nat) ({ cls := "RopeDance$Unwinding", name := "<init>", desc := "()V" } : Jvm.MethodName) ∈ lw_g := xg (xin_4 (List.mem_of_getElem? (i := 162) rfl)) rfl
theorem dX11_unwinding_12 : decode bX11_unwinding 12 = .ok (.invokespecial 343, 3) := by decide +kernel
theorem dX11_unwinding_15 : decode bX11_unwinding 15 = .ok (.putfield 340, 3) := by decide +kernel
theorem wcl_X11_205 : Cond.classLink "RopeDance" 205 "RopeDance$Search" ∈ lw_g := xg (xin_4 (List.mem_of_getElem? (i := 223) rfl)) rfl
theorem win_X4 : Cond.instantiable "RopeDance$Search" 5 ∈ lw_g := xg (xin_4 (List.mem_of_getElem? (i := 224) rfl)) rfl
theorem dX11_searchFrom_8 : decode bX11_searchFrom 8 = .ok (.new 205, 3) := by decide +kernel
theorem dX11_searchFrom_11 : decode bX11_searchFrom 11 = .ok (.dup, 1) := by decide +kernel
theorem wk_X4_init : Cond.code ({ cls := "RopeDance$Search", name := "<init>", desc := "()V" } : Jvm.MethodName) prog_6_method_1_code (1 : Nat) (Option.none : Option Jvm.ClassFile.FieldType) ∈ lw_g := xg (xin_4 (List.mem_of_getElem? (i := 227) rfl)) rfl
theorem MK_X4_init : MK yX4_init bX4_init 1 none 0 := ⟨wn_X4, wk_X4_init, ⟨by decide, by decide, by decide +kernel⟩, by decide⟩
theorem wi_X4_init : Cond.instanceMethod ({ cls := "RopeDance$Search", name := "<init>", desc := "()V" } : Jvm.MethodName) ∈ lw_g := xg (xin_4 (List.mem_of_getElem? (i := 226) rfl)) rfl
theorem wm_X11_344 : Cond.methodLink "RopeDance" (344 : Nat) ({ cls := "RopeDance$Search", name := "<init>", desc := "()V" } : Jvm.MethodName) ∈ lw_g := xg (xin_4 (List.mem_of_getElem? (i := 225) rfl)) rfl
theorem dX11_searchFrom_12 : decode bX11_searchFrom 12 = .ok (.invokespecial 344, 3) := by decide +kernel
theorem dX11_searchFrom_15 : decode bX11_searchFrom 15 = .ok (.putfield 330, 3) := by decide +kernel
theorem dv4 : ∀ j, j < 5 → defaultValue (t4 j) = vp_V [.int 0, .int 0, .null, .null, .null] j := by
  intro j hj
  match j with
  | 0 => rfl
  | 1 => rfl
  | 2 => rfl
  | 3 => rfl
  | 4 => rfl
  | _ + 5 => omega
theorem dv10 : ∀ j, j < 2 → defaultValue (t10 j) = vp_V [.null, .null] j := by
  intro j hj
  match j with
  | 0 => rfl
  | 1 => rfl
  | _ + 2 => omega
theorem upU {L : List (Nat × Nat)} {x : Nat × Nat} (h : x ∈ L) : x ∈ lX10 L := List.mem_cons_of_mem _ (List.mem_cons_of_mem _ (List.mem_cons_of_mem _ h))
theorem upS {L : List (Nat × Nat)} {x : Nat × Nat} (h : x ∈ L) : x ∈ lX4 L := List.mem_cons_of_mem _ (List.mem_cons_of_mem _ (List.mem_cons_of_mem _ (List.mem_cons_of_mem _ h)))
set_option maxRecDepth 20000 in
set_option maxHeartbeats 4000000 in
theorem sX11_searchFrom {z : Zx} {k : Kx} {F : Nat} {T : Nat × Nat} {μ' : Mm} (hk : kok k) (hx : Ok z k bX11_searchFrom 2 "RopeDance" (some (.object "RopeDance$Search")) 4 T) : ∀ (v1 : Nat) (μ : Mm) (e_v0 : kex k 11 0) (e_v1 : kex k 5 v1), fX11_searchFrom_L18 F v1 μ = some μ' → Gw z k 2 (k, T, (some (.object "RopeDance$Search")), (some (.ref (kad k 4 0))), μ') T 18 μ [(0, .ref (kad k 11 0)), (1, .ref (kad k 5 v1))] [] := by
  intro  v1 μ e_v0 e_v1 hf
  unfold fX11_searchFrom_L18 at hf
  refine r_aloadn hx 0 rfl rfl dX11_searchFrom_18 ?_
  refine r_getN hx (c' := 4) (i' := 0) FK11_10 e_v0 rfl wf_X11_330 dX11_searchFrom_19 (fun q3 => ?_) (fun q3 e4 => ?_)
  · have hf := (f_ite hf).1 q3
    refine r_aloadn hx 0 rfl rfl dX11_searchFrom_22 ?_
    refine r_getT hx FK11_2 e_v0 (by decide) wf_X11_19 dX11_searchFrom_23 (fun e5 => ?_)
    refine r_aloadn hx 1 rfl rfl dX11_searchFrom_26 ?_
    exact f_no hf
  · have hf := (f_ite hf).2 q3
    refine r_aloadn hx 0 rfl rfl dX11_searchFrom_22 ?_
    refine r_getT hx FK11_2 e_v0 (by decide) wf_X11_19 dX11_searchFrom_23 (fun e6 => ?_)
    refine r_aloadn hx 1 rfl rfl dX11_searchFrom_26 ?_
    obtain ⟨μ8, c7, hf⟩ := f_bd1 hf
    refine r_callV hx (As := [.ref (kad k 8 (tx (gi μ 11 0 2))), .ref (kad k 5 v1)]) (rest := []) (st1 := []) (c := 4) (i := 0) (TT := T4) (N := 5) MK_X4_spread rfl wi_X4_spread we_X4_spread wm_X11_345 ⟨Nat.le_refl _, Nat.le_refl _⟩ (cX4_spread hk e4 e6 e_v1 c7) e4 (Nat.le_of_ble_eq_true rfl) rfl rfl (Nat.le_of_ble_eq_true rfl) rfl dX11_searchFrom_27 (fun hb9 => ?_)
    refine r_aloadn hx 0 rfl rfl dX11_searchFrom_30 ?_
    refine r_getN hx (c' := 4) (i' := 0) FK11_10 e_v0 rfl wf_X11_330 dX11_searchFrom_31 (fun q10 => ?_) (fun q10 e11 => ?_)
    · have hf := (f_ite hf).1 q10
      exact f_no hf
    · have hf := (f_ite hf).2 q10
      exact r_aretR hx hf dX11_searchFrom_34
set_option maxRecDepth 20000 in
set_option maxHeartbeats 4000000 in
theorem aX11_unwinding {l : Launch} {k : Kx} {F : Nat} {L : List (Nat × Nat)} {μ μ' : Mm} (hk : kok (kL k L)) (hk1 : kok (kL k (lX10 L))) (e_this : (11, 0) ∈ L) (hf : fX11_unwinding_a F μ = some μ') : MA l k 3 yX11_unwinding bX11_unwinding 1 (some (.object "RopeDance$Unwinding")) [.ref (kad k 11 0)] L nU (3, 9902) μ (some (.ref (kad k 10 0))) (lX10 L) μ' := by
  refine MA.of (lv := [(0, .ref (kad k 11 0))]) (plainFor_of_name (by decide)) hk (Nat.le_of_ble_eq_true rfl) rfl (fun z hl hx hz hA => ?_)
  subst hl
  have hx : Ok z (kL k L) bX11_unwinding 1 "RopeDance" (some (.object "RopeDance$Unwinding")) 3 (3, 9902) := hx
  have hz : Oc false z k bX11_unwinding 1 "RopeDance" 3 (3, 9902) := hz
  unfold fX11_unwinding_a at hf
  have q0 : gi μ 11 0 11 = 0 := Classical.byContradiction (fun q => f_no ((f_ite hf).2 q))
  have hf := (f_ite hf).1 q0
  refine r_aloadn hx 0 rfl rfl dX11_unwinding_0 ?_
  refine r_getN hx (c' := 10) (i' := 0) FK11_11 e_this rfl wf_X11_340 dX11_unwinding_1 (fun q1 => ?_) (fun q1 e2 => absurd q0 q1)
  refine r_nonnullN hx dX11_unwinding_4 ?_
  refine r_aloadn hx 0 rfl rfl dX11_unwinding_7 ?_
  refine g_toC ?_
  refine c_new hz (c := 10) (i := 0) (TT := T10) (ty := t10) (fs := [.null, .null]) rfl (xgu iw10) tok10 wcl_X11_184 win_X10 wn_X10 (hA 0 _ rfl) dv10 ⟨Nat.le_of_ble_eq_true rfl, Nat.le_of_ble_eq_true rfl⟩ dX11_unwinding_8 ?_
  refine c_C (C' := (1, 2)) rfl ?_
  refine c_dup hz rfl dX11_unwinding_11 ?_
  obtain ⟨m1, c7, hf⟩ := f_bd1 hf
  refine c_callI hz (As := []) (rest := [.ref (kad k 10 0), .ref (kad k 11 0)]) (xs0 := []) (N := nX10) (L' := lX10 L) MK_X10_init wi_X10_init wm_X11_343 rfl ⟨Nat.le_of_ble_eq_true rfl, Nat.le_of_ble_eq_true rfl⟩ (mX10_init (k := kR k []) (kok_R0 hk1) c7) rfl (AL_sub hA 1 2 rfl) (hX10) (Nat.le_of_ble_eq_true rfl) rfl rfl (Nat.le_of_ble_eq_true rfl) dX11_unwinding_12 ?_
  refine c_C (C' := (3, 9902)) rfl ?_
  refine c_toW hz hx.2.2.2.2.2.2.2.2.2.1 hk1 (fun hx => ?_)
  have e_this : kex (kL k (lX10 L)) 11 0 := upU e_this
  refine r_put4 hx (c := 11) (i := 0) (j := 11) (c' := 10) (i' := 0) (D := "RopeDance$Unwinding") FK11_11 (fun T N h => by cases h; rfl) e_this wf_X11_340 (by decide +kernel) rfl List.mem_cons_self dX11_unwinding_15 ?_
  refine r_aloadn hx 0 rfl rfl dX11_unwinding_18 ?_
  refine r_getN hx (c' := 10) (i' := 0) FK11_11 e_this rfl wf_X11_340 dX11_unwinding_19 (fun q3 => absurd (show (1 : Int32) = 0 from q3) (by decide)) (fun _ e4 => ?_)
  exact r_aretR hx hf dX11_unwinding_22
set_option maxRecDepth 20000 in
set_option maxHeartbeats 4000000 in
theorem aX11_searchFrom {l : Launch} {k : Kx} {F : Nat} {a1 : Nat} {L : List (Nat × Nat)} {μ μ' : Mm} (hk : kok (kL k L)) (hk1 : kok (kL k (lX4 L))) (e_this : (11, 0) ∈ L) (e_a1 : (5, a1) ∈ L) (hf : fX11_searchFrom_a F a1 μ = some μ') : MA l k 4 yX11_searchFrom bX11_searchFrom 2 (some (.object "RopeDance$Search")) [.ref (kad k 11 0), .ref (kad k 5 a1)] L nS (4, 31925) μ (some (.ref (kad k 4 0))) (lX4 L) μ' := by
  refine MA.of (lv := [(0, .ref (kad k 11 0)), (1, .ref (kad k 5 a1))]) (plainFor_of_name (by decide)) hk (Nat.le_of_ble_eq_true rfl) rfl (fun z hl hx hz hA => ?_)
  subst hl
  have hx : Ok z (kL k L) bX11_searchFrom 2 "RopeDance" (some (.object "RopeDance$Search")) 4 (4, 31925) := hx
  have hz : Oc false z k bX11_searchFrom 2 "RopeDance" 4 (4, 31925) := hz
  unfold fX11_searchFrom_a at hf
  have q0 : gi μ 11 0 10 = 0 := Classical.byContradiction (fun q => f_no ((f_ite hf).2 q))
  have hf := (f_ite hf).1 q0
  refine r_aloadn hx 0 rfl rfl dX11_searchFrom_0 ?_
  refine r_getN hx (c' := 4) (i' := 0) FK11_10 e_this rfl wf_X11_330 dX11_searchFrom_1 (fun q1 => ?_) (fun q1 e2 => absurd q0 q1)
  refine r_nonnullN hx dX11_searchFrom_4 ?_
  refine r_aloadn hx 0 rfl rfl dX11_searchFrom_7 ?_
  refine g_toC ?_
  refine c_new hz (c := 4) (i := 0) (TT := T4) (ty := t4) (fs := [.int 0, .int 0, .null, .null, .null]) rfl (xgu iw4) tok4 wcl_X11_205 win_X4 wn_X4 (hA 0 _ rfl) dv4 ⟨Nat.le_of_ble_eq_true rfl, Nat.le_of_ble_eq_true rfl⟩ dX11_searchFrom_8 ?_
  refine c_C (C' := (1, 5)) rfl ?_
  refine c_dup hz rfl dX11_searchFrom_11 ?_
  refine c_callI hz (As := []) (rest := [.ref (kad k 4 0), .ref (kad k 11 0)]) (xs0 := []) (N := nX4) (L' := lX4 L) MK_X4_init wi_X4_init wm_X11_344 rfl ⟨Nat.le_of_ble_eq_true rfl, Nat.le_of_ble_eq_true rfl⟩ (mX4_init (k := kR k [])) rfl (AL_sub hA 1 3 rfl) (hX4) (Nat.le_of_ble_eq_true rfl) rfl rfl (Nat.le_of_ble_eq_true rfl) dX11_searchFrom_12 ?_
  refine c_C (C' := (4, 31925)) rfl ?_
  refine c_toW hz hx.2.2.2.2.2.2.2.2.2.1 hk1 (fun hx => ?_)
  have e_this : kex (kL k (lX4 L)) 11 0 := upS e_this
  refine r_put4 hx (c := 11) (i := 0) (j := 10) (c' := 4) (i' := 0) (D := "RopeDance$Search") FK11_10 (fun T N h => by cases h; rfl) e_this wf_X11_330 (by decide +kernel) rfl List.mem_cons_self dX11_searchFrom_15 ?_
  exact sX11_searchFrom hk1 hx _ _ e_this (upS e_a1) hf
def fX11_least_a (F : Nat) (a1 : Int32) (μ : Mm) : Option (Int32 × Mm) := bd2 (fX11_squareAt F a1 μ) fun r3 μ2 => oel r3 (none) (fun i5 => bd1 (fX11_unwinding_a F μ2) fun μ8 => bd2 (fX10_fewest F (gi μ8 5 i5 0) (gi μ8 5 i5 1) μ8) fun r12 μ11 => some (r12, μ11))
set_option maxRecDepth 20000 in
set_option maxHeartbeats 4000000 in
theorem aX11_least {l : Launch} {k : Kx} {L : List (Nat × Nat)} {F : Nat} {a1 : Int32} {μ μ' : Mm} {r : Int32} (hk : kok (kL k L)) (hk1 : kok (kL k (lX10 L))) (e_this : (11, 0) ∈ L) (hf : fX11_least_a F a1 μ = some (r, μ')) : MA l k 4 yX11_least bX11_least 3 (some .int) [.ref (kad k 11 0), .int a1] L nU (3, 9902) μ (some (.int r)) (lX10 L) μ' := by
  refine MA.of (lv := [(0, .ref (kad k 11 0)), (1, .int a1)]) (plainFor_of_name (by decide)) hk (Nat.le_of_ble_eq_true rfl) rfl (fun z hl hx hz hA => ?_)
  subst hl
  have hx : Ok z (kL k L) bX11_least 3 "RopeDance" (some .int) 4 (3, 9902) := hx
  have hz : Oc false z k bX11_least 3 "RopeDance" 4 (3, 9902) := hz
  unfold fX11_least_a at hf
  refine r_aloadn hx 0 rfl rfl dX11_least_0 ?_
  refine r_iloadn hx 1 rfl rfl dX11_least_1 ?_
  obtain ⟨r3, μ2, c1, hf⟩ := f_bd2 hf
  refine r_callV hx (As := [.int a1]) (rest := []) (st1 := [rp k 5 r3]) (c := 11) (i := 0) (TT := T11) (N := 12) MK_X11_squareAt rfl wi_X11_squareAt we_X11_squareAt wm_X11_98 ⟨Nat.zero_le _, Nat.zero_le _⟩ (cX11_squareAt hk e_this c1) e_this (Nat.le_of_ble_eq_true rfl) rfl rfl (Nat.le_of_ble_eq_true rfl) rfl dX11_least_2 (fun hb4 => ?_)
  cases r3 with
  | none =>
    have hf := f_on hf
    refine r_astorenN (lv' := [(2, .null), (0, .ref (kad k 11 0)), (1, .int a1)]) hx rfl (Nat.le_of_ble_eq_true rfl) rfl dX11_least_5 ?_
    refine r_aloadnN hx 0 rfl rfl dX11_least_6 ?_
    refine r_nonnullN hx dX11_least_7 ?_
    refine r_iconst hx ci_m1 dX11_least_10 ?_
    refine r_goto (tgt := 29) hx rfl dX11_least_11 ?_
    exact f_no hf
  | some i5 =>
    have hf := f_os hf
    have e6 : (5, i5) ∈ L := xX11_squareAt hk e_this c1
    refine r_astoren (lv' := [(2, .ref (kad k 5 i5)), (0, .ref (kad k 11 0)), (1, .int a1)]) hx rfl (Nat.le_of_ble_eq_true rfl) rfl dX11_least_5 ?_
    refine r_aloadn hx 0 rfl rfl dX11_least_6 ?_
    refine r_nonnullS (tgt := 14) hx rfl dX11_least_7 ?_
    refine r_aloadn hx 1 rfl rfl dX11_least_14 ?_
    obtain ⟨μ8, c7, hf⟩ := f_bd1 hf
    refine r_callVa hx hz (As := []) (rest := []) (st1 := [.ref (kad k 10 0)]) (c := 11) (i := 0) (TT := T11) (N2 := 12) MK_X11_unwinding rfl wi_X11_unwinding we_X11_unwinding wm_X11_179 ⟨Nat.le_of_ble_eq_true rfl, Nat.le_of_ble_eq_true rfl⟩ (aX11_unwinding hk hk1 e_this c7) hA e_this (Nat.le_of_ble_eq_true rfl) rfl rfl (Nat.le_of_ble_eq_true rfl) rfl dX11_least_15 (fun hb9 => ?_)
    refine g_C (C' := (3, 9902)) rfl ?_
    have hk := hk1
    have hx := ok_L hx hk1
    have e_U : kex (kL k (lX10 L)) 10 0 := List.mem_cons_self
    have e_this := upU e_this
    have e6 := upU e6
    refine r_aloadn hx 0 rfl rfl dX11_least_18 ?_
    refine r_getI hx FK5_0 e6 wf_X11_102 dX11_least_19 ?_
    refine r_aloadn hx 0 rfl rfl dX11_least_22 ?_
    refine r_getI hx FK5_1 e6 wf_X11_105 dX11_least_23 ?_
    obtain ⟨r12, μ11, c10, hf⟩ := f_bd2 hf
    refine r_callV hx (As := [.int (gi μ8 5 i5 0), .int (gi μ8 5 i5 1)]) (rest := []) (st1 := [.int r12]) (c := 10) (i := 0) (TT := T10) (N := 2) MK_X10_fewest rfl wi_X10_fewest we_X10_fewest wm_X11_183 ⟨Nat.le_refl _, Nat.le_refl _⟩ (cX10_fewest hk e_U c10) e_U (Nat.le_of_ble_eq_true rfl) rfl rfl (Nat.le_of_ble_eq_true rfl) rfl dX11_least_26 (fun hb13 => ?_)
    exact r_iret hx hf dX11_least_29
def fX11_ways_a (F : Nat) (a1 : Int32) (μ : Mm) : Option (Int32 × Mm) := bd2 (fX11_squareAt F a1 μ) fun r3 μ2 => oel r3 (none) (fun i5 => bd1 (fX11_unwinding_a F μ2) fun μ8 => bd2 (fX10_howMany F (gi μ8 5 i5 0) (gi μ8 5 i5 1) μ8) fun r12 μ11 => some (r12, μ11))
set_option maxRecDepth 20000 in
set_option maxHeartbeats 4000000 in
theorem aX11_ways {l : Launch} {k : Kx} {L : List (Nat × Nat)} {F : Nat} {a1 : Int32} {μ μ' : Mm} {r : Int32} (hk : kok (kL k L)) (hk1 : kok (kL k (lX10 L))) (e_this : (11, 0) ∈ L) (hf : fX11_ways_a F a1 μ = some (r, μ')) : MA l k 4 yX11_ways bX11_ways 3 (some .int) [.ref (kad k 11 0), .int a1] L nU (3, 9902) μ (some (.int r)) (lX10 L) μ' := by
  refine MA.of (lv := [(0, .ref (kad k 11 0)), (1, .int a1)]) (plainFor_of_name (by decide)) hk (Nat.le_of_ble_eq_true rfl) rfl (fun z hl hx hz hA => ?_)
  subst hl
  have hx : Ok z (kL k L) bX11_ways 3 "RopeDance" (some .int) 4 (3, 9902) := hx
  have hz : Oc false z k bX11_ways 3 "RopeDance" 4 (3, 9902) := hz
  unfold fX11_ways_a at hf
  refine r_aloadn hx 0 rfl rfl dX11_ways_0 ?_
  refine r_iloadn hx 1 rfl rfl dX11_ways_1 ?_
  obtain ⟨r3, μ2, c1, hf⟩ := f_bd2 hf
  refine r_callV hx (As := [.int a1]) (rest := []) (st1 := [rp k 5 r3]) (c := 11) (i := 0) (TT := T11) (N := 12) MK_X11_squareAt rfl wi_X11_squareAt we_X11_squareAt wm_X11_98 ⟨Nat.zero_le _, Nat.zero_le _⟩ (cX11_squareAt hk e_this c1) e_this (Nat.le_of_ble_eq_true rfl) rfl rfl (Nat.le_of_ble_eq_true rfl) rfl dX11_ways_2 (fun hb4 => ?_)
  cases r3 with
  | none =>
    have hf := f_on hf
    refine r_astorenN (lv' := [(2, .null), (0, .ref (kad k 11 0)), (1, .int a1)]) hx rfl (Nat.le_of_ble_eq_true rfl) rfl dX11_ways_5 ?_
    refine r_aloadnN hx 0 rfl rfl dX11_ways_6 ?_
    refine r_nonnullN hx dX11_ways_7 ?_
    refine r_iconst hx ci_m1 dX11_ways_10 ?_
    refine r_goto (tgt := 29) hx rfl dX11_ways_11 ?_
    exact f_no hf
  | some i5 =>
    have hf := f_os hf
    have e6 : (5, i5) ∈ L := xX11_squareAt hk e_this c1
    refine r_astoren (lv' := [(2, .ref (kad k 5 i5)), (0, .ref (kad k 11 0)), (1, .int a1)]) hx rfl (Nat.le_of_ble_eq_true rfl) rfl dX11_ways_5 ?_
    refine r_aloadn hx 0 rfl rfl dX11_ways_6 ?_
    refine r_nonnullS (tgt := 14) hx rfl dX11_ways_7 ?_
    refine r_aloadn hx 1 rfl rfl dX11_ways_14 ?_
    obtain ⟨μ8, c7, hf⟩ := f_bd1 hf
    refine r_callVa hx hz (As := []) (rest := []) (st1 := [.ref (kad k 10 0)]) (c := 11) (i := 0) (TT := T11) (N2 := 12) MK_X11_unwinding rfl wi_X11_unwinding we_X11_unwinding wm_X11_179 ⟨Nat.le_of_ble_eq_true rfl, Nat.le_of_ble_eq_true rfl⟩ (aX11_unwinding hk hk1 e_this c7) hA e_this (Nat.le_of_ble_eq_true rfl) rfl rfl (Nat.le_of_ble_eq_true rfl) rfl dX11_ways_15 (fun hb9 => ?_)
    refine g_C (C' := (3, 9902)) rfl ?_
    have hk := hk1
    have hx := ok_L hx hk1
    have e_U : kex (kL k (lX10 L)) 10 0 := List.mem_cons_self
    have e_this := upU e_this
    have e6 := upU e6
    refine r_aloadn hx 0 rfl rfl dX11_ways_18 ?_
    refine r_getI hx FK5_0 e6 wf_X11_102 dX11_ways_19 ?_
    refine r_aloadn hx 0 rfl rfl dX11_ways_22 ?_
    refine r_getI hx FK5_1 e6 wf_X11_105 dX11_ways_23 ?_
    obtain ⟨r12, μ11, c10, hf⟩ := f_bd2 hf
    refine r_callV hx (As := [.int (gi μ8 5 i5 0), .int (gi μ8 5 i5 1)]) (rest := []) (st1 := [.int r12]) (c := 10) (i := 0) (TT := T10) (N := 2) MK_X10_howMany rfl wi_X10_howMany we_X10_howMany wm_X11_189 ⟨Nat.le_refl _, Nat.le_refl _⟩ (cX10_howMany hk e_U c10) e_U (Nat.le_of_ble_eq_true rfl) rfl rfl (Nat.le_of_ble_eq_true rfl) rfl dX11_ways_26 (fun hb13 => ?_)
    exact r_iret hx hf dX11_ways_29
def fX11_step_a (F : Nat) (a1 : Int32) (a2 : Int32) (μ : Mm) : Option (Int32 × Mm) := bd2 (fX11_squareAt F a1 μ) fun r3 μ2 => oel r3 (none) (fun i5 => bd1 (fX11_unwinding_a F μ2) fun μ8 => bd2 (fX10_thing F (gi μ8 5 i5 0) (gi μ8 5 i5 1) a2 μ8) fun r12 μ11 => some (r12, μ11))
set_option maxRecDepth 20000 in
set_option maxHeartbeats 4000000 in
theorem aX11_step {l : Launch} {k : Kx} {L : List (Nat × Nat)} {F : Nat} {a1 : Int32} {a2 : Int32} {μ μ' : Mm} {r : Int32} (hk : kok (kL k L)) (hk1 : kok (kL k (lX10 L))) (e_this : (11, 0) ∈ L) (hf : fX11_step_a F a1 a2 μ = some (r, μ')) : MA l k 4 yX11_step bX11_step 4 (some .int) [.ref (kad k 11 0), .int a1, .int a2] L nU (3, 9902) μ (some (.int r)) (lX10 L) μ' := by
  refine MA.of (lv := [(0, .ref (kad k 11 0)), (1, .int a1), (2, .int a2)]) (plainFor_of_name (by decide)) hk (Nat.le_of_ble_eq_true rfl) rfl (fun z hl hx hz hA => ?_)
  subst hl
  have hx : Ok z (kL k L) bX11_step 4 "RopeDance" (some .int) 4 (3, 9902) := hx
  have hz : Oc false z k bX11_step 4 "RopeDance" 4 (3, 9902) := hz
  unfold fX11_step_a at hf
  refine r_aloadn hx 0 rfl rfl dX11_step_0 ?_
  refine r_iloadn hx 1 rfl rfl dX11_step_1 ?_
  obtain ⟨r3, μ2, c1, hf⟩ := f_bd2 hf
  refine r_callV hx (As := [.int a1]) (rest := []) (st1 := [rp k 5 r3]) (c := 11) (i := 0) (TT := T11) (N := 12) MK_X11_squareAt rfl wi_X11_squareAt we_X11_squareAt wm_X11_98 ⟨Nat.zero_le _, Nat.zero_le _⟩ (cX11_squareAt hk e_this c1) e_this (Nat.le_of_ble_eq_true rfl) rfl rfl (Nat.le_of_ble_eq_true rfl) rfl dX11_step_2 (fun hb4 => ?_)
  cases r3 with
  | none =>
    have hf := f_on hf
    refine r_astorenN (lv' := [(3, .null), (0, .ref (kad k 11 0)), (1, .int a1), (2, .int a2)]) hx rfl (Nat.le_of_ble_eq_true rfl) rfl dX11_step_5 ?_
    refine r_aloadnN hx 0 rfl rfl dX11_step_6 ?_
    refine r_nonnullN hx dX11_step_7 ?_
    refine r_sipush hx cs_m1000 dX11_step_10 ?_
    refine r_goto (tgt := 32) hx rfl dX11_step_13 ?_
    exact f_no hf
  | some i5 =>
    have hf := f_os hf
    have e6 : (5, i5) ∈ L := xX11_squareAt hk e_this c1
    refine r_astoren (lv' := [(3, .ref (kad k 5 i5)), (0, .ref (kad k 11 0)), (1, .int a1), (2, .int a2)]) hx rfl (Nat.le_of_ble_eq_true rfl) rfl dX11_step_5 ?_
    refine r_aloadn hx 0 rfl rfl dX11_step_6 ?_
    refine r_nonnullS (tgt := 16) hx rfl dX11_step_7 ?_
    refine r_aloadn hx 1 rfl rfl dX11_step_16 ?_
    obtain ⟨μ8, c7, hf⟩ := f_bd1 hf
    refine r_callVa hx hz (As := []) (rest := []) (st1 := [.ref (kad k 10 0)]) (c := 11) (i := 0) (TT := T11) (N2 := 12) MK_X11_unwinding rfl wi_X11_unwinding we_X11_unwinding wm_X11_179 ⟨Nat.le_of_ble_eq_true rfl, Nat.le_of_ble_eq_true rfl⟩ (aX11_unwinding hk hk1 e_this c7) hA e_this (Nat.le_of_ble_eq_true rfl) rfl rfl (Nat.le_of_ble_eq_true rfl) rfl dX11_step_17 (fun hb9 => ?_)
    refine g_C (C' := (3, 9902)) rfl ?_
    have hk := hk1
    have hx := ok_L hx hk1
    have e_U : kex (kL k (lX10 L)) 10 0 := List.mem_cons_self
    have e_this := upU e_this
    have e6 := upU e6
    refine r_aloadn hx 0 rfl rfl dX11_step_20 ?_
    refine r_getI hx FK5_0 e6 wf_X11_102 dX11_step_21 ?_
    refine r_aloadn hx 0 rfl rfl dX11_step_24 ?_
    refine r_getI hx FK5_1 e6 wf_X11_105 dX11_step_25 ?_
    refine r_iloadn hx 3 rfl rfl dX11_step_28 ?_
    obtain ⟨r12, μ11, c10, hf⟩ := f_bd2 hf
    refine r_callV hx (As := [.int (gi μ8 5 i5 0), .int (gi μ8 5 i5 1), .int a2]) (rest := []) (st1 := [.int r12]) (c := 10) (i := 0) (TT := T10) (N := 2) MK_X10_thing rfl wi_X10_thing we_X10_thing wm_X11_192 ⟨Nat.le_refl _, Nat.le_refl _⟩ (cX10_thing hk e_U c10) e_U (Nat.le_of_ble_eq_true rfl) rfl rfl (Nat.le_of_ble_eq_true rfl) rfl dX11_step_29 (fun hb13 => ?_)
    exact r_iret hx hf dX11_step_32
def fX11_reach_a (F : Nat) (a1 : Int32) (μ : Mm) : Option (Int32 × Mm) := bd2 (fX11_squareAt F a1 μ) fun r3 μ2 => oel r3 (none) (fun i5 => bd1 (fX11_searchFrom_a F i5 μ2) fun μ8 => some ((gi μ8 4 0 0), μ8))
set_option maxRecDepth 20000 in
set_option maxHeartbeats 4000000 in
theorem aX11_reach {l : Launch} {k : Kx} {L : List (Nat × Nat)} {F : Nat} {a1 : Int32} {μ μ' : Mm} {r : Int32} (hk : kok (kL k L)) (hk1 : kok (kL k (lX4 L))) (e_this : (11, 0) ∈ L) (hf : fX11_reach_a F a1 μ = some (r, μ')) : MA l k 5 yX11_reach bX11_reach 3 (some .int) [.ref (kad k 11 0), .int a1] L nS (4, 31925) μ (some (.int r)) (lX4 L) μ' := by
  refine MA.of (lv := [(0, .ref (kad k 11 0)), (1, .int a1)]) (plainFor_of_name (by decide)) hk (Nat.le_of_ble_eq_true rfl) rfl (fun z hl hx hz hA => ?_)
  subst hl
  have hx : Ok z (kL k L) bX11_reach 3 "RopeDance" (some .int) 5 (4, 31925) := hx
  have hz : Oc false z k bX11_reach 3 "RopeDance" 5 (4, 31925) := hz
  unfold fX11_reach_a at hf
  refine r_aloadn hx 0 rfl rfl dX11_reach_0 ?_
  refine r_iloadn hx 1 rfl rfl dX11_reach_1 ?_
  obtain ⟨r3, μ2, c1, hf⟩ := f_bd2 hf
  refine r_callV hx (As := [.int a1]) (rest := []) (st1 := [rp k 5 r3]) (c := 11) (i := 0) (TT := T11) (N := 12) MK_X11_squareAt rfl wi_X11_squareAt we_X11_squareAt wm_X11_98 ⟨Nat.zero_le _, Nat.zero_le _⟩ (cX11_squareAt hk e_this c1) e_this (Nat.le_of_ble_eq_true rfl) rfl rfl (Nat.le_of_ble_eq_true rfl) rfl dX11_reach_2 (fun hb4 => ?_)
  cases r3 with
  | none =>
    have hf := f_on hf
    refine r_astorenN (lv' := [(2, .null), (0, .ref (kad k 11 0)), (1, .int a1)]) hx rfl (Nat.le_of_ble_eq_true rfl) rfl dX11_reach_5 ?_
    refine r_aloadnN hx 0 rfl rfl dX11_reach_6 ?_
    refine r_nonnullN hx dX11_reach_7 ?_
    refine r_iconst hx ci_m1 dX11_reach_10 ?_
    refine r_goto (tgt := 22) hx rfl dX11_reach_11 ?_
    exact f_no hf
  | some i5 =>
    have hf := f_os hf
    have e6 : (5, i5) ∈ L := xX11_squareAt hk e_this c1
    refine r_astoren (lv' := [(2, .ref (kad k 5 i5)), (0, .ref (kad k 11 0)), (1, .int a1)]) hx rfl (Nat.le_of_ble_eq_true rfl) rfl dX11_reach_5 ?_
    refine r_aloadn hx 0 rfl rfl dX11_reach_6 ?_
    refine r_nonnullS (tgt := 14) hx rfl dX11_reach_7 ?_
    refine r_aloadn hx 1 rfl rfl dX11_reach_14 ?_
    refine r_aloadn hx 0 rfl rfl dX11_reach_15 ?_
    obtain ⟨μ8, c7, hf⟩ := f_bd1 hf
    refine r_callVa hx hz (As := [.ref (kad k 5 i5)]) (rest := []) (st1 := [.ref (kad k 4 0)]) (c := 11) (i := 0) (TT := T11) (N2 := 12) MK_X11_searchFrom rfl wi_X11_searchFrom we_X11_searchFrom wm_X11_200 ⟨Nat.le_of_ble_eq_true rfl, Nat.le_of_ble_eq_true rfl⟩ (aX11_searchFrom hk hk1 e_this e6 c7) hA e_this (Nat.le_of_ble_eq_true rfl) rfl rfl (Nat.le_of_ble_eq_true rfl) rfl dX11_reach_16 (fun hb9 => ?_)
    refine g_C (C' := (4, 31925)) rfl ?_
    have hk := hk1
    have hx := ok_L hx hk1
    have e_S : kex (kL k (lX4 L)) 4 0 := List.mem_cons_self
    have e_this := upS e_this
    have e6 := upS e6
    refine r_getI hx FK4_0 e_S wf_X11_204 dX11_reach_19 ?_
    exact r_iret hx hf dX11_reach_22
def fX11_figuresTo_a (F : Nat) (a1 : Nat) (a2 : Nat) (a3 : Int32) (μ : Mm) : Option (Int32 × Mm) := bd2 (fX4_number F (gi μ 5 a2 0) (gi μ 5 a2 1) μ) fun r3 μ2 => bd1 (fX11_searchFrom_a F a1 μ2) fun μ6 => bd2 (fX4_lengthTo F r3 μ6) fun r10 μ9 => if r10 = (-1) then (some ((-2), μ9)) else (if a3 = (-1) then (some (r10, μ9)) else (if r10 ≤ a3 then (some ((-1), μ9)) else (bd2 (fX4_figureBeforeLast F r3 ((r10 - 1) - a3) μ9) fun r17 μ16 => some (r17, μ16))))
set_option maxRecDepth 20000 in
set_option maxHeartbeats 4000000 in
theorem aX11_figuresTo {l : Launch} {k : Kx} {L : List (Nat × Nat)} {F : Nat} {a1 : Nat} {a2 : Nat} {a3 : Int32} {μ μ' : Mm} {r : Int32} (hk : kok (kL k L)) (hk1 : kok (kL k (lX4 L))) (e_this : (11, 0) ∈ L) (e_a1 : (5, a1) ∈ L) (e_a2 : (5, a2) ∈ L) (hf : fX11_figuresTo_a F a1 a2 a3 μ = some (r, μ')) : MA l k 5 yX11_figuresTo bX11_figuresTo 7 (some .int) [.ref (kad k 11 0), .ref (kad k 5 a1), .ref (kad k 5 a2), .int a3] L nS (4, 31925) μ (some (.int r)) (lX4 L) μ' := by
  refine MA.of (lv := [(0, .ref (kad k 11 0)), (1, .ref (kad k 5 a1)), (2, .ref (kad k 5 a2)), (3, .int a3)]) (plainFor_of_name (by decide)) hk (Nat.le_of_ble_eq_true rfl) rfl (fun z hl hx hz hA => ?_)
  subst hl
  have hx : Ok z (kL k L) bX11_figuresTo 7 "RopeDance" (some .int) 5 (4, 31925) := hx
  have hz : Oc false z k bX11_figuresTo 7 "RopeDance" 5 (4, 31925) := hz
  unfold fX11_figuresTo_a at hf
  refine r_aloadn hx 2 rfl rfl dX11_figuresTo_0 ?_
  refine r_getI hx FK5_0 e_a2 wf_X11_102 dX11_figuresTo_1 ?_
  refine r_aloadn hx 2 rfl rfl dX11_figuresTo_4 ?_
  refine r_getI hx FK5_1 e_a2 wf_X11_105 dX11_figuresTo_5 ?_
  obtain ⟨r3, μ2, c1, hf⟩ := f_bd2 hf
  refine r_callS hx (As := [.int (gi μ 5 a2 0), .int (gi μ 5 a2 1)]) (rest := []) (st1 := [.int r3]) MK_X4_number ws_X4_number wm_X11_349 ⟨Nat.zero_le _, Nat.zero_le _⟩ (cX4_number hk c1) (Nat.le_of_ble_eq_true rfl) rfl rfl (Nat.le_of_ble_eq_true rfl) rfl dX11_figuresTo_8 (fun hb4 => ?_)
  refine r_istore (lv' := [(4, .int r3), (0, .ref (kad k 11 0)), (1, .ref (kad k 5 a1)), (2, .ref (kad k 5 a2)), (3, .int a3)]) hx (Nat.le_of_ble_eq_true rfl) rfl dX11_figuresTo_11 ?_
  refine r_aloadn hx 1 rfl rfl dX11_figuresTo_13 ?_
  refine r_aloadn hx 2 rfl rfl dX11_figuresTo_14 ?_
  obtain ⟨μ6, c5, hf⟩ := f_bd1 hf
  refine r_callVa hx hz (As := [.ref (kad k 5 a1)]) (rest := []) (st1 := [.ref (kad k 4 0)]) (c := 11) (i := 0) (TT := T11) (N2 := 12) MK_X11_searchFrom rfl wi_X11_searchFrom we_X11_searchFrom wm_X11_200 ⟨Nat.le_of_ble_eq_true rfl, Nat.le_of_ble_eq_true rfl⟩ (aX11_searchFrom hk hk1 e_this e_a1 c5) hA e_this (Nat.le_of_ble_eq_true rfl) rfl rfl (Nat.le_of_ble_eq_true rfl) rfl dX11_figuresTo_15 (fun hb7 => ?_)
  refine g_C (C' := (4, 31925)) rfl ?_
  have hk := hk1
  have hx := ok_L hx hk1
  have e_S : kex (kL k (lX4 L)) 4 0 := List.mem_cons_self
  have e_this := upS e_this
  have e_a1 := upS e_a1
  have e_a2 := upS e_a2
  refine r_astore (lv' := [(5, .ref (kad k 4 0)), (4, .int r3), (0, .ref (kad k 11 0)), (1, .ref (kad k 5 a1)), (2, .ref (kad k 5 a2)), (3, .int a3)]) hx (Nat.le_of_ble_eq_true rfl) rfl dX11_figuresTo_18 ?_
  refine r_aload hx 0 rfl dX11_figuresTo_20 ?_
  refine r_iload hx 1 rfl dX11_figuresTo_22 ?_
  obtain ⟨r10, μ9, c8, hf⟩ := f_bd2 hf
  refine r_callV hx (As := [.int r3]) (rest := []) (st1 := [.int r10]) (c := 4) (i := 0) (TT := T4) (N := 5) MK_X4_lengthTo rfl wi_X4_lengthTo we_X4_lengthTo wm_X11_352 ⟨Nat.le_refl _, Nat.le_refl _⟩ (cX4_lengthTo hk e_S c8) e_S (Nat.le_of_ble_eq_true rfl) rfl rfl (Nat.le_of_ble_eq_true rfl) rfl dX11_figuresTo_24 (fun hb11 => ?_)
  refine r_istore (lv' := [(6, .int r10), (5, .ref (kad k 4 0)), (4, .int r3), (0, .ref (kad k 11 0)), (1, .ref (kad k 5 a1)), (2, .ref (kad k 5 a2)), (3, .int a3)]) hx (Nat.le_of_ble_eq_true rfl) rfl dX11_figuresTo_27 ?_
  refine r_iload hx 0 rfl dX11_figuresTo_29 ?_
  refine r_iconst hx ci_m1 dX11_figuresTo_31 ?_
  refine r_icne (tgt := 38) hx rfl dX11_figuresTo_32 (fun q12 => ?_) (fun q12 => ?_)
  · have hf := (f_ite hf).2 q12
    refine r_iloadn hx 6 rfl rfl dX11_figuresTo_38 ?_
    refine r_iconst hx ci_m1 dX11_figuresTo_39 ?_
    refine r_icne (tgt := 46) hx rfl dX11_figuresTo_40 (fun q13 => ?_) (fun q13 => ?_)
    · have hf := (f_ite hf).2 q13
      refine r_iloadn hx 6 rfl rfl dX11_figuresTo_46 ?_
      refine r_iload hx 0 rfl dX11_figuresTo_47 ?_
      refine r_icge (tgt := 68) hx rfl dX11_figuresTo_49 (fun q14 => ?_) (fun q14 => ?_)
      · have hf := (f_ite hf).1 q14
        refine r_iconst hx ci_m1 dX11_figuresTo_68 ?_
        exact r_iret hx hf dX11_figuresTo_69
      · have hf := (f_ite hf).2 q14
        refine r_aload hx 1 rfl dX11_figuresTo_52 ?_
        refine r_iload hx 2 rfl dX11_figuresTo_54 ?_
        refine r_iload hx 0 rfl dX11_figuresTo_56 ?_
        refine r_iconst hx ci_1 dX11_figuresTo_58 ?_
        refine r_isub hx dX11_figuresTo_59 ?_
        refine r_iloadn hx 6 rfl rfl dX11_figuresTo_60 ?_
        refine r_isub hx dX11_figuresTo_61 ?_
        obtain ⟨r17, μ16, c15, hf⟩ := f_bd2 hf
        refine r_callV hx (As := [.int r3, .int ((r10 - 1) - a3)]) (rest := []) (st1 := [.int r17]) (c := 4) (i := 0) (TT := T4) (N := 5) MK_X4_figureBeforeLast rfl wi_X4_figureBeforeLast we_X4_figureBeforeLast wm_X11_355 ⟨Nat.le_refl _, Nat.le_refl _⟩ (cX4_figureBeforeLast hk e_S c15) e_S (Nat.le_of_ble_eq_true rfl) rfl rfl (Nat.le_of_ble_eq_true rfl) rfl dX11_figuresTo_62 (fun hb18 => ?_)
        refine r_goto (tgt := 69) hx rfl dX11_figuresTo_65 ?_
        exact r_iret hx hf dX11_figuresTo_69
    · have hf := (f_ite hf).1 q13
      refine r_iload hx 0 rfl dX11_figuresTo_43 ?_
      exact r_iret hx hf dX11_figuresTo_45
  · have hf := (f_ite hf).1 q12
    refine r_bipush hx cb_m2 dX11_figuresTo_35 ?_
    exact r_iret hx hf dX11_figuresTo_37
def fX11_plan_a (F : Nat) (a1 : Int32) (a2 : Int32) (μ : Mm) : Option (Int32 × Mm) := bd2 (fX11_squareAt F a1 μ) fun r3 μ2 => oel r3 (none) (fun i5 => if (-1) ≤ a2 then (bd1 (fX5_letGo F 4 μ2) fun μ10 => bd2 (fX11_figuresTo_a F i5 4 a2 μ10) fun r15 μ14 => some (r15, μ14)) else (none))
set_option maxRecDepth 20000 in
set_option maxHeartbeats 4000000 in
theorem aX11_plan {l : Launch} {k : Kx} {L : List (Nat × Nat)} {F : Nat} {a1 : Int32} {a2 : Int32} {μ μ' : Mm} {r : Int32} (hk : kok (kL k L)) (hk1 : kok (kL k (lX4 L))) (e_this : (11, 0) ∈ L) (hf : fX11_plan_a F a1 a2 μ = some (r, μ')) : MA l k 6 yX11_plan bX11_plan 4 (some .int) [.ref (kad k 11 0), .int a1, .int a2] L nS (4, 31925) μ (some (.int r)) (lX4 L) μ' := by
  refine MA.of (lv := [(0, .ref (kad k 11 0)), (1, .int a1), (2, .int a2)]) (plainFor_of_name (by decide)) hk (Nat.le_of_ble_eq_true rfl) rfl (fun z hl hx hz hA => ?_)
  subst hl
  have hx : Ok z (kL k L) bX11_plan 4 "RopeDance" (some .int) 6 (4, 31925) := hx
  have hz : Oc false z k bX11_plan 4 "RopeDance" 6 (4, 31925) := hz
  unfold fX11_plan_a at hf
  refine r_aloadn hx 0 rfl rfl dX11_plan_0 ?_
  refine r_iloadn hx 1 rfl rfl dX11_plan_1 ?_
  obtain ⟨r3, μ2, c1, hf⟩ := f_bd2 hf
  refine r_callV hx (As := [.int a1]) (rest := []) (st1 := [rp k 5 r3]) (c := 11) (i := 0) (TT := T11) (N := 12) MK_X11_squareAt rfl wi_X11_squareAt we_X11_squareAt wm_X11_98 ⟨Nat.zero_le _, Nat.zero_le _⟩ (cX11_squareAt hk e_this c1) e_this (Nat.le_of_ble_eq_true rfl) rfl rfl (Nat.le_of_ble_eq_true rfl) rfl dX11_plan_2 (fun hb4 => ?_)
  cases r3 with
  | none =>
    have hf := f_on hf
    refine r_astorenN (lv' := [(3, .null), (0, .ref (kad k 11 0)), (1, .int a1), (2, .int a2)]) hx rfl (Nat.le_of_ble_eq_true rfl) rfl dX11_plan_5 ?_
    refine r_aloadnN hx 0 rfl rfl dX11_plan_6 ?_
    refine r_nullN (tgt := 15) hx rfl dX11_plan_7 ?_
    refine r_iconst hx ci_m1 dX11_plan_15 ?_
    exact f_no hf
  | some i5 =>
    have hf := f_os hf
    have e6 : (5, i5) ∈ L := xX11_squareAt hk e_this c1
    refine r_astoren (lv' := [(3, .ref (kad k 5 i5)), (0, .ref (kad k 11 0)), (1, .int a1), (2, .int a2)]) hx rfl (Nat.le_of_ble_eq_true rfl) rfl dX11_plan_5 ?_
    refine r_aloadn hx 0 rfl rfl dX11_plan_6 ?_
    refine r_nullS hx dX11_plan_7 ?_
    refine r_iloadn hx 3 rfl rfl dX11_plan_10 ?_
    refine r_iconst hx ci_m1 dX11_plan_11 ?_
    refine r_icge (tgt := 17) hx rfl dX11_plan_12 (fun q7 => ?_) (fun q7 => ?_)
    · have hf := (f_ite hf).1 q7
      refine r_aloadn hx 1 rfl rfl dX11_plan_17 ?_
      refine r_getR hx (c' := 5) (i' := 4) FK11_7 e_this rfl wf_X11_59 dX11_plan_18 (fun e8 => ?_)
      obtain ⟨μ10, c9, hf⟩ := f_bd1 hf
      refine r_callV hx (As := []) (rest := []) (st1 := []) (c := 5) (i := 4) (TT := T5) (N := 4) MK_X5_letGo rfl wi_X5_letGo we_X5_letGo wm_X11_169 ⟨Nat.zero_le _, Nat.zero_le _⟩ (cX5_letGo hk e8 c9) e8 (Nat.le_of_ble_eq_true rfl) rfl rfl (Nat.le_of_ble_eq_true rfl) rfl dX11_plan_21 (fun hb11 => ?_)
      refine r_aloadn hx 1 rfl rfl dX11_plan_24 ?_
      refine r_aloadn hx 0 rfl rfl dX11_plan_25 ?_
      refine r_aloadn hx 1 rfl rfl dX11_plan_26 ?_
      refine r_getR hx (c' := 5) (i' := 4) FK11_7 e_this rfl wf_X11_59 dX11_plan_27 (fun e12 => ?_)
      refine r_iloadn hx 3 rfl rfl dX11_plan_30 ?_
      obtain ⟨r15, μ14, c13, hf⟩ := f_bd2 hf
      refine r_callVa hx hz (As := [.ref (kad k 5 i5), .ref (kad k 5 4), .int a2]) (rest := []) (st1 := [.int r15]) (c := 11) (i := 0) (TT := T11) (N2 := 12) MK_X11_figuresTo rfl wi_X11_figuresTo we_X11_figuresTo wm_X11_196 ⟨Nat.le_of_ble_eq_true rfl, Nat.le_of_ble_eq_true rfl⟩ (aX11_figuresTo hk hk1 e_this e6 e12 c13) hA e_this (Nat.le_of_ble_eq_true rfl) rfl rfl (Nat.le_of_ble_eq_true rfl) rfl dX11_plan_31 (fun hb16 => ?_)
      refine g_C (C' := (4, 31925)) rfl ?_
      have hk := hk1
      have hx := ok_L hx hk1
      have e_S : kex (kL k (lX4 L)) 4 0 := List.mem_cons_self
      have e_this := upS e_this
      have e6 := upS e6
      have e8 := upS e8
      have e12 := upS e12
      exact r_iret hx hf dX11_plan_34
    · have hf := (f_ite hf).2 q7
      refine r_iconst hx ci_m1 dX11_plan_15 ?_
      exact f_no hf
def fX11_bring_a (F : Nat) (a1 : Int32) (a2 : Int32) (a3 : Int32) (μ : Mm) : Option (Int32 × Mm) := bd2 (fX11_squareAt F a1 μ) fun r3 μ2 => oel r3 (bd2 (fX11_squareAt F a2 μ2) fun r9 μ8 => oel r9 (none) (fun i11 => none)) (fun i5 => bd2 (fX11_squareAt F a2 μ2) fun r15 μ14 => oel r15 (none) (fun i17 => if a1 = a2 then (none) else (if (-1) ≤ a3 then (bd2 (fX11_figuresTo_a F i5 i17 a3 μ14) fun r23 μ22 => some (r23, μ22)) else (none))))
set_option maxRecDepth 20000 in
set_option maxHeartbeats 4000000 in
theorem aX11_bring {l : Launch} {k : Kx} {L : List (Nat × Nat)} {F : Nat} {a1 : Int32} {a2 : Int32} {a3 : Int32} {μ μ' : Mm} {r : Int32} (hk : kok (kL k L)) (hk1 : kok (kL k (lX4 L))) (e_this : (11, 0) ∈ L) (hf : fX11_bring_a F a1 a2 a3 μ = some (r, μ')) : MA l k 6 yX11_bring bX11_bring 6 (some .int) [.ref (kad k 11 0), .int a1, .int a2, .int a3] L nS (4, 31925) μ (some (.int r)) (lX4 L) μ' := by
  refine MA.of (lv := [(0, .ref (kad k 11 0)), (1, .int a1), (2, .int a2), (3, .int a3)]) (plainFor_of_name (by decide)) hk (Nat.le_of_ble_eq_true rfl) rfl (fun z hl hx hz hA => ?_)
  subst hl
  have hx : Ok z (kL k L) bX11_bring 6 "RopeDance" (some .int) 6 (4, 31925) := hx
  have hz : Oc false z k bX11_bring 6 "RopeDance" 6 (4, 31925) := hz
  unfold fX11_bring_a at hf
  refine r_aloadn hx 0 rfl rfl dX11_bring_0 ?_
  refine r_iloadn hx 1 rfl rfl dX11_bring_1 ?_
  obtain ⟨r3, μ2, c1, hf⟩ := f_bd2 hf
  refine r_callV hx (As := [.int a1]) (rest := []) (st1 := [rp k 5 r3]) (c := 11) (i := 0) (TT := T11) (N := 12) MK_X11_squareAt rfl wi_X11_squareAt we_X11_squareAt wm_X11_98 ⟨Nat.zero_le _, Nat.zero_le _⟩ (cX11_squareAt hk e_this c1) e_this (Nat.le_of_ble_eq_true rfl) rfl rfl (Nat.le_of_ble_eq_true rfl) rfl dX11_bring_2 (fun hb4 => ?_)
  cases r3 with
  | none =>
    have hf := f_on hf
    refine r_astoreN (lv' := [(4, .null), (0, .ref (kad k 11 0)), (1, .int a1), (2, .int a2), (3, .int a3)]) hx (Nat.le_of_ble_eq_true rfl) rfl dX11_bring_5 ?_
    refine r_aloadn hx 1 rfl rfl dX11_bring_7 ?_
    refine r_iloadn hx 3 rfl rfl dX11_bring_8 ?_
    obtain ⟨r9, μ8, c7, hf⟩ := f_bd2 hf
    refine r_callV hx (As := [.int a2]) (rest := []) (st1 := [rp k 5 r9]) (c := 11) (i := 0) (TT := T11) (N := 12) MK_X11_squareAt rfl wi_X11_squareAt we_X11_squareAt wm_X11_98 ⟨Nat.zero_le _, Nat.zero_le _⟩ (cX11_squareAt hk e_this c7) e_this (Nat.le_of_ble_eq_true rfl) rfl rfl (Nat.le_of_ble_eq_true rfl) rfl dX11_bring_9 (fun hb10 => ?_)
    cases r9 with
    | none =>
      have hf := f_on hf
      refine r_astoreN (lv' := [(5, .null), (4, .null), (0, .ref (kad k 11 0)), (1, .int a1), (2, .int a2), (3, .int a3)]) hx (Nat.le_of_ble_eq_true rfl) rfl dX11_bring_12 ?_
      refine r_aloadN hx 1 rfl dX11_bring_14 ?_
      refine r_nullN (tgt := 34) hx rfl dX11_bring_16 ?_
      refine r_iconst hx ci_m1 dX11_bring_34 ?_
      exact f_no hf
    | some i11 =>
      have hf := f_os hf
      have e12 : (5, i11) ∈ L := xX11_squareAt hk e_this c7
      refine r_astore (lv' := [(5, .ref (kad k 5 i11)), (4, .null), (0, .ref (kad k 11 0)), (1, .int a1), (2, .int a2), (3, .int a3)]) hx (Nat.le_of_ble_eq_true rfl) rfl dX11_bring_12 ?_
      refine r_aloadN hx 1 rfl dX11_bring_14 ?_
      refine r_nullN (tgt := 34) hx rfl dX11_bring_16 ?_
      refine r_iconst hx ci_m1 dX11_bring_34 ?_
      exact f_no hf
  | some i5 =>
    have hf := f_os hf
    have e6 : (5, i5) ∈ L := xX11_squareAt hk e_this c1
    refine r_astore (lv' := [(4, .ref (kad k 5 i5)), (0, .ref (kad k 11 0)), (1, .int a1), (2, .int a2), (3, .int a3)]) hx (Nat.le_of_ble_eq_true rfl) rfl dX11_bring_5 ?_
    refine r_aloadn hx 1 rfl rfl dX11_bring_7 ?_
    refine r_iloadn hx 3 rfl rfl dX11_bring_8 ?_
    obtain ⟨r15, μ14, c13, hf⟩ := f_bd2 hf
    refine r_callV hx (As := [.int a2]) (rest := []) (st1 := [rp k 5 r15]) (c := 11) (i := 0) (TT := T11) (N := 12) MK_X11_squareAt rfl wi_X11_squareAt we_X11_squareAt wm_X11_98 ⟨Nat.zero_le _, Nat.zero_le _⟩ (cX11_squareAt hk e_this c13) e_this (Nat.le_of_ble_eq_true rfl) rfl rfl (Nat.le_of_ble_eq_true rfl) rfl dX11_bring_9 (fun hb16 => ?_)
    cases r15 with
    | none =>
      have hf := f_on hf
      refine r_astoreN (lv' := [(5, .null), (4, .ref (kad k 5 i5)), (0, .ref (kad k 11 0)), (1, .int a1), (2, .int a2), (3, .int a3)]) hx (Nat.le_of_ble_eq_true rfl) rfl dX11_bring_12 ?_
      refine r_aload hx 1 rfl dX11_bring_14 ?_
      refine r_nullS hx dX11_bring_16 ?_
      refine r_aloadN hx 0 rfl dX11_bring_19 ?_
      refine r_nullN (tgt := 34) hx rfl dX11_bring_21 ?_
      refine r_iconst hx ci_m1 dX11_bring_34 ?_
      exact f_no hf
    | some i17 =>
      have hf := f_os hf
      have e18 : (5, i17) ∈ L := xX11_squareAt hk e_this c13
      refine r_astore (lv' := [(5, .ref (kad k 5 i17)), (4, .ref (kad k 5 i5)), (0, .ref (kad k 11 0)), (1, .int a1), (2, .int a2), (3, .int a3)]) hx (Nat.le_of_ble_eq_true rfl) rfl dX11_bring_12 ?_
      refine r_aload hx 1 rfl dX11_bring_14 ?_
      refine r_nullS hx dX11_bring_16 ?_
      refine r_aload hx 0 rfl dX11_bring_19 ?_
      refine r_nullS hx dX11_bring_21 ?_
      refine r_iloadn hx 3 rfl rfl dX11_bring_24 ?_
      refine r_iloadn hx 4 rfl rfl dX11_bring_25 ?_
      refine r_iceq (tgt := 34) hx rfl dX11_bring_26 (fun q19 => ?_) (fun q19 => ?_)
      · have hf := (f_ite hf).1 q19
        refine r_iconst hx ci_m1 dX11_bring_34 ?_
        exact f_no hf
      · have hf := (f_ite hf).2 q19
        refine r_iloadn hx 5 rfl rfl dX11_bring_29 ?_
        refine r_iconst hx ci_m1 dX11_bring_30 ?_
        refine r_icge (tgt := 36) hx rfl dX11_bring_31 (fun q20 => ?_) (fun q20 => ?_)
        · have hf := (f_ite hf).1 q20
          refine r_aloadn hx 2 rfl rfl dX11_bring_36 ?_
          refine r_aload hx 1 rfl dX11_bring_37 ?_
          refine r_aload hx 0 rfl dX11_bring_39 ?_
          refine r_iloadn hx 5 rfl rfl dX11_bring_41 ?_
          obtain ⟨r23, μ22, c21, hf⟩ := f_bd2 hf
          refine r_callVa hx hz (As := [.ref (kad k 5 i5), .ref (kad k 5 i17), .int a3]) (rest := []) (st1 := [.int r23]) (c := 11) (i := 0) (TT := T11) (N2 := 12) MK_X11_figuresTo rfl wi_X11_figuresTo we_X11_figuresTo wm_X11_196 ⟨Nat.le_of_ble_eq_true rfl, Nat.le_of_ble_eq_true rfl⟩ (aX11_figuresTo hk hk1 e_this e6 e18 c21) hA e_this (Nat.le_of_ble_eq_true rfl) rfl rfl (Nat.le_of_ble_eq_true rfl) rfl dX11_bring_42 (fun hb24 => ?_)
          refine g_C (C' := (4, 31925)) rfl ?_
          have hk := hk1
          have hx := ok_L hx hk1
          have e_S : kex (kL k (lX4 L)) 4 0 := List.mem_cons_self
          have e_this := upS e_this
          have e6 := upS e6
          have e18 := upS e18
          exact r_iret hx hf dX11_bring_45
        · have hf := (f_ite hf).2 q20
          refine r_iconst hx ci_m1 dX11_bring_34 ?_
          exact f_no hf
def fX11_least_n (F : Nat) (a1 : Int32) (μ : Mm) : Option (Int32 × Mm) := bd2 (fX11_squareAt F a1 μ) fun r3 μ2 => oel r3 (some ((-1), μ2)) (fun i5 => none)
set_option maxRecDepth 20000 in
set_option maxHeartbeats 4000000 in
theorem nX11_least {l : Launch} {k : Kx} {F : Nat} {a1 : Int32} {μ μ' : Mm} {r : Int32} (hk : kok k) (e_this : kex k 11 0) (hf : fX11_least_n F a1 μ = some (r, μ')) : MM l k 4 yX11_least bX11_least 3 (some .int) [.ref (kad k 11 0), .int a1] μ (some (.int r)) μ' := by
  refine MM.of (lv := [(0, .ref (kad k 11 0)), (1, .int a1)]) (plainFor_of_name (by decide)) hk (Nat.le_of_ble_eq_true rfl) rfl (fun z hl hx => ?_)
  subst hl
  have hx : Ok z k bX11_least 3 "RopeDance" (some .int) 4 (0, 0) := hx
  unfold fX11_least_n at hf
  refine r_aloadn hx 0 rfl rfl dX11_least_0 ?_
  refine r_iloadn hx 1 rfl rfl dX11_least_1 ?_
  obtain ⟨r3, μ2, c1, hf⟩ := f_bd2 hf
  refine r_callV hx (As := [.int a1]) (rest := []) (st1 := [rp k 5 r3]) (c := 11) (i := 0) (TT := T11) (N := 12) MK_X11_squareAt rfl wi_X11_squareAt we_X11_squareAt wm_X11_98 ⟨Nat.le_refl _, Nat.le_refl _⟩ (cX11_squareAt hk e_this c1) e_this (Nat.le_of_ble_eq_true rfl) rfl rfl (Nat.le_of_ble_eq_true rfl) rfl dX11_least_2 (fun hb4 => ?_)
  cases r3 with
  | none =>
    have hf := f_on hf
    refine r_astorenN (lv' := [(2, .null), (0, .ref (kad k 11 0)), (1, .int a1)]) hx rfl (Nat.le_of_ble_eq_true rfl) rfl dX11_least_5 ?_
    refine r_aloadnN hx 0 rfl rfl dX11_least_6 ?_
    refine r_nonnullN hx dX11_least_7 ?_
    refine r_iconst hx ci_m1 dX11_least_10 ?_
    refine r_goto (tgt := 29) hx rfl dX11_least_11 ?_
    exact r_iret hx hf dX11_least_29
  | some i5 =>
    have hf := f_os hf
    have e6 : kex k 5 i5 := xX11_squareAt hk e_this c1
    refine r_astoren (lv' := [(2, .ref (kad k 5 i5)), (0, .ref (kad k 11 0)), (1, .int a1)]) hx rfl (Nat.le_of_ble_eq_true rfl) rfl dX11_least_5 ?_
    refine r_aloadn hx 0 rfl rfl dX11_least_6 ?_
    refine r_nonnullS (tgt := 14) hx rfl dX11_least_7 ?_
    refine r_aloadn hx 1 rfl rfl dX11_least_14 ?_
    exact f_no hf
def fX11_ways_n (F : Nat) (a1 : Int32) (μ : Mm) : Option (Int32 × Mm) := bd2 (fX11_squareAt F a1 μ) fun r3 μ2 => oel r3 (some ((-1), μ2)) (fun i5 => none)
set_option maxRecDepth 20000 in
set_option maxHeartbeats 4000000 in
theorem nX11_ways {l : Launch} {k : Kx} {F : Nat} {a1 : Int32} {μ μ' : Mm} {r : Int32} (hk : kok k) (e_this : kex k 11 0) (hf : fX11_ways_n F a1 μ = some (r, μ')) : MM l k 4 yX11_ways bX11_ways 3 (some .int) [.ref (kad k 11 0), .int a1] μ (some (.int r)) μ' := by
  refine MM.of (lv := [(0, .ref (kad k 11 0)), (1, .int a1)]) (plainFor_of_name (by decide)) hk (Nat.le_of_ble_eq_true rfl) rfl (fun z hl hx => ?_)
  subst hl
  have hx : Ok z k bX11_ways 3 "RopeDance" (some .int) 4 (0, 0) := hx
  unfold fX11_ways_n at hf
  refine r_aloadn hx 0 rfl rfl dX11_ways_0 ?_
  refine r_iloadn hx 1 rfl rfl dX11_ways_1 ?_
  obtain ⟨r3, μ2, c1, hf⟩ := f_bd2 hf
  refine r_callV hx (As := [.int a1]) (rest := []) (st1 := [rp k 5 r3]) (c := 11) (i := 0) (TT := T11) (N := 12) MK_X11_squareAt rfl wi_X11_squareAt we_X11_squareAt wm_X11_98 ⟨Nat.le_refl _, Nat.le_refl _⟩ (cX11_squareAt hk e_this c1) e_this (Nat.le_of_ble_eq_true rfl) rfl rfl (Nat.le_of_ble_eq_true rfl) rfl dX11_ways_2 (fun hb4 => ?_)
  cases r3 with
  | none =>
    have hf := f_on hf
    refine r_astorenN (lv' := [(2, .null), (0, .ref (kad k 11 0)), (1, .int a1)]) hx rfl (Nat.le_of_ble_eq_true rfl) rfl dX11_ways_5 ?_
    refine r_aloadnN hx 0 rfl rfl dX11_ways_6 ?_
    refine r_nonnullN hx dX11_ways_7 ?_
    refine r_iconst hx ci_m1 dX11_ways_10 ?_
    refine r_goto (tgt := 29) hx rfl dX11_ways_11 ?_
    exact r_iret hx hf dX11_ways_29
  | some i5 =>
    have hf := f_os hf
    have e6 : kex k 5 i5 := xX11_squareAt hk e_this c1
    refine r_astoren (lv' := [(2, .ref (kad k 5 i5)), (0, .ref (kad k 11 0)), (1, .int a1)]) hx rfl (Nat.le_of_ble_eq_true rfl) rfl dX11_ways_5 ?_
    refine r_aloadn hx 0 rfl rfl dX11_ways_6 ?_
    refine r_nonnullS (tgt := 14) hx rfl dX11_ways_7 ?_
    refine r_aloadn hx 1 rfl rfl dX11_ways_14 ?_
    exact f_no hf
def fX11_step_n (F : Nat) (a1 : Int32) (a2 : Int32) (μ : Mm) : Option (Int32 × Mm) := bd2 (fX11_squareAt F a1 μ) fun r3 μ2 => oel r3 (some ((-1000), μ2)) (fun i5 => none)
set_option maxRecDepth 20000 in
set_option maxHeartbeats 4000000 in
theorem nX11_step {l : Launch} {k : Kx} {F : Nat} {a1 : Int32} {a2 : Int32} {μ μ' : Mm} {r : Int32} (hk : kok k) (e_this : kex k 11 0) (hf : fX11_step_n F a1 a2 μ = some (r, μ')) : MM l k 4 yX11_step bX11_step 4 (some .int) [.ref (kad k 11 0), .int a1, .int a2] μ (some (.int r)) μ' := by
  refine MM.of (lv := [(0, .ref (kad k 11 0)), (1, .int a1), (2, .int a2)]) (plainFor_of_name (by decide)) hk (Nat.le_of_ble_eq_true rfl) rfl (fun z hl hx => ?_)
  subst hl
  have hx : Ok z k bX11_step 4 "RopeDance" (some .int) 4 (0, 0) := hx
  unfold fX11_step_n at hf
  refine r_aloadn hx 0 rfl rfl dX11_step_0 ?_
  refine r_iloadn hx 1 rfl rfl dX11_step_1 ?_
  obtain ⟨r3, μ2, c1, hf⟩ := f_bd2 hf
  refine r_callV hx (As := [.int a1]) (rest := []) (st1 := [rp k 5 r3]) (c := 11) (i := 0) (TT := T11) (N := 12) MK_X11_squareAt rfl wi_X11_squareAt we_X11_squareAt wm_X11_98 ⟨Nat.le_refl _, Nat.le_refl _⟩ (cX11_squareAt hk e_this c1) e_this (Nat.le_of_ble_eq_true rfl) rfl rfl (Nat.le_of_ble_eq_true rfl) rfl dX11_step_2 (fun hb4 => ?_)
  cases r3 with
  | none =>
    have hf := f_on hf
    refine r_astorenN (lv' := [(3, .null), (0, .ref (kad k 11 0)), (1, .int a1), (2, .int a2)]) hx rfl (Nat.le_of_ble_eq_true rfl) rfl dX11_step_5 ?_
    refine r_aloadnN hx 0 rfl rfl dX11_step_6 ?_
    refine r_nonnullN hx dX11_step_7 ?_
    refine r_sipush hx cs_m1000 dX11_step_10 ?_
    refine r_goto (tgt := 32) hx rfl dX11_step_13 ?_
    exact r_iret hx hf dX11_step_32
  | some i5 =>
    have hf := f_os hf
    have e6 : kex k 5 i5 := xX11_squareAt hk e_this c1
    refine r_astoren (lv' := [(3, .ref (kad k 5 i5)), (0, .ref (kad k 11 0)), (1, .int a1), (2, .int a2)]) hx rfl (Nat.le_of_ble_eq_true rfl) rfl dX11_step_5 ?_
    refine r_aloadn hx 0 rfl rfl dX11_step_6 ?_
    refine r_nonnullS (tgt := 16) hx rfl dX11_step_7 ?_
    refine r_aloadn hx 1 rfl rfl dX11_step_16 ?_
    exact f_no hf
def fX11_reach_n (F : Nat) (a1 : Int32) (μ : Mm) : Option (Int32 × Mm) := bd2 (fX11_squareAt F a1 μ) fun r3 μ2 => oel r3 (some ((-1), μ2)) (fun i5 => none)
set_option maxRecDepth 20000 in
set_option maxHeartbeats 4000000 in
theorem nX11_reach {l : Launch} {k : Kx} {F : Nat} {a1 : Int32} {μ μ' : Mm} {r : Int32} (hk : kok k) (e_this : kex k 11 0) (hf : fX11_reach_n F a1 μ = some (r, μ')) : MM l k 5 yX11_reach bX11_reach 3 (some .int) [.ref (kad k 11 0), .int a1] μ (some (.int r)) μ' := by
  refine MM.of (lv := [(0, .ref (kad k 11 0)), (1, .int a1)]) (plainFor_of_name (by decide)) hk (Nat.le_of_ble_eq_true rfl) rfl (fun z hl hx => ?_)
  subst hl
  have hx : Ok z k bX11_reach 3 "RopeDance" (some .int) 5 (0, 0) := hx
  unfold fX11_reach_n at hf
  refine r_aloadn hx 0 rfl rfl dX11_reach_0 ?_
  refine r_iloadn hx 1 rfl rfl dX11_reach_1 ?_
  obtain ⟨r3, μ2, c1, hf⟩ := f_bd2 hf
  refine r_callV hx (As := [.int a1]) (rest := []) (st1 := [rp k 5 r3]) (c := 11) (i := 0) (TT := T11) (N := 12) MK_X11_squareAt rfl wi_X11_squareAt we_X11_squareAt wm_X11_98 ⟨Nat.le_refl _, Nat.le_refl _⟩ (cX11_squareAt hk e_this c1) e_this (Nat.le_of_ble_eq_true rfl) rfl rfl (Nat.le_of_ble_eq_true rfl) rfl dX11_reach_2 (fun hb4 => ?_)
  cases r3 with
  | none =>
    have hf := f_on hf
    refine r_astorenN (lv' := [(2, .null), (0, .ref (kad k 11 0)), (1, .int a1)]) hx rfl (Nat.le_of_ble_eq_true rfl) rfl dX11_reach_5 ?_
    refine r_aloadnN hx 0 rfl rfl dX11_reach_6 ?_
    refine r_nonnullN hx dX11_reach_7 ?_
    refine r_iconst hx ci_m1 dX11_reach_10 ?_
    refine r_goto (tgt := 22) hx rfl dX11_reach_11 ?_
    exact r_iret hx hf dX11_reach_22
  | some i5 =>
    have hf := f_os hf
    have e6 : kex k 5 i5 := xX11_squareAt hk e_this c1
    refine r_astoren (lv' := [(2, .ref (kad k 5 i5)), (0, .ref (kad k 11 0)), (1, .int a1)]) hx rfl (Nat.le_of_ble_eq_true rfl) rfl dX11_reach_5 ?_
    refine r_aloadn hx 0 rfl rfl dX11_reach_6 ?_
    refine r_nonnullS (tgt := 14) hx rfl dX11_reach_7 ?_
    refine r_aloadn hx 1 rfl rfl dX11_reach_14 ?_
    refine r_aloadn hx 0 rfl rfl dX11_reach_15 ?_
    exact f_no hf
def fX11_plan_n (F : Nat) (a1 : Int32) (a2 : Int32) (μ : Mm) : Option (Int32 × Mm) := bd2 (fX11_squareAt F a1 μ) fun r3 μ2 => oel r3 (some ((-1), μ2)) (fun i5 => if (-1) ≤ a2 then (bd1 (fX5_letGo F 4 μ2) fun μ10 => none) else (some ((-1), μ2)))
set_option maxRecDepth 20000 in
set_option maxHeartbeats 4000000 in
theorem nX11_plan {l : Launch} {k : Kx} {F : Nat} {a1 : Int32} {a2 : Int32} {μ μ' : Mm} {r : Int32} (hk : kok k) (e_this : kex k 11 0) (hf : fX11_plan_n F a1 a2 μ = some (r, μ')) : MM l k 6 yX11_plan bX11_plan 4 (some .int) [.ref (kad k 11 0), .int a1, .int a2] μ (some (.int r)) μ' := by
  refine MM.of (lv := [(0, .ref (kad k 11 0)), (1, .int a1), (2, .int a2)]) (plainFor_of_name (by decide)) hk (Nat.le_of_ble_eq_true rfl) rfl (fun z hl hx => ?_)
  subst hl
  have hx : Ok z k bX11_plan 4 "RopeDance" (some .int) 6 (0, 0) := hx
  unfold fX11_plan_n at hf
  refine r_aloadn hx 0 rfl rfl dX11_plan_0 ?_
  refine r_iloadn hx 1 rfl rfl dX11_plan_1 ?_
  obtain ⟨r3, μ2, c1, hf⟩ := f_bd2 hf
  refine r_callV hx (As := [.int a1]) (rest := []) (st1 := [rp k 5 r3]) (c := 11) (i := 0) (TT := T11) (N := 12) MK_X11_squareAt rfl wi_X11_squareAt we_X11_squareAt wm_X11_98 ⟨Nat.le_refl _, Nat.le_refl _⟩ (cX11_squareAt hk e_this c1) e_this (Nat.le_of_ble_eq_true rfl) rfl rfl (Nat.le_of_ble_eq_true rfl) rfl dX11_plan_2 (fun hb4 => ?_)
  cases r3 with
  | none =>
    have hf := f_on hf
    refine r_astorenN (lv' := [(3, .null), (0, .ref (kad k 11 0)), (1, .int a1), (2, .int a2)]) hx rfl (Nat.le_of_ble_eq_true rfl) rfl dX11_plan_5 ?_
    refine r_aloadnN hx 0 rfl rfl dX11_plan_6 ?_
    refine r_nullN (tgt := 15) hx rfl dX11_plan_7 ?_
    refine r_iconst hx ci_m1 dX11_plan_15 ?_
    exact r_iret hx hf dX11_plan_16
  | some i5 =>
    have hf := f_os hf
    have e6 : kex k 5 i5 := xX11_squareAt hk e_this c1
    refine r_astoren (lv' := [(3, .ref (kad k 5 i5)), (0, .ref (kad k 11 0)), (1, .int a1), (2, .int a2)]) hx rfl (Nat.le_of_ble_eq_true rfl) rfl dX11_plan_5 ?_
    refine r_aloadn hx 0 rfl rfl dX11_plan_6 ?_
    refine r_nullS hx dX11_plan_7 ?_
    refine r_iloadn hx 3 rfl rfl dX11_plan_10 ?_
    refine r_iconst hx ci_m1 dX11_plan_11 ?_
    refine r_icge (tgt := 17) hx rfl dX11_plan_12 (fun q7 => ?_) (fun q7 => ?_)
    · have hf := (f_ite hf).1 q7
      refine r_aloadn hx 1 rfl rfl dX11_plan_17 ?_
      refine r_getR hx (c' := 5) (i' := 4) FK11_7 e_this rfl wf_X11_59 dX11_plan_18 (fun e8 => ?_)
      obtain ⟨μ10, c9, hf⟩ := f_bd1 hf
      refine r_callV hx (As := []) (rest := []) (st1 := []) (c := 5) (i := 4) (TT := T5) (N := 4) MK_X5_letGo rfl wi_X5_letGo we_X5_letGo wm_X11_169 ⟨Nat.le_refl _, Nat.le_refl _⟩ (cX5_letGo hk e8 c9) e8 (Nat.le_of_ble_eq_true rfl) rfl rfl (Nat.le_of_ble_eq_true rfl) rfl dX11_plan_21 (fun hb11 => ?_)
      refine r_aloadn hx 1 rfl rfl dX11_plan_24 ?_
      refine r_aloadn hx 0 rfl rfl dX11_plan_25 ?_
      refine r_aloadn hx 1 rfl rfl dX11_plan_26 ?_
      refine r_getR hx (c' := 5) (i' := 4) FK11_7 e_this rfl wf_X11_59 dX11_plan_27 (fun e12 => ?_)
      refine r_iloadn hx 3 rfl rfl dX11_plan_30 ?_
      exact f_no hf
    · have hf := (f_ite hf).2 q7
      refine r_iconst hx ci_m1 dX11_plan_15 ?_
      exact r_iret hx hf dX11_plan_16
def fX11_bring_n (F : Nat) (a1 : Int32) (a2 : Int32) (a3 : Int32) (μ : Mm) : Option (Int32 × Mm) := bd2 (fX11_squareAt F a1 μ) fun r3 μ2 => oel r3 (bd2 (fX11_squareAt F a2 μ2) fun r9 μ8 => oel r9 (some ((-1), μ8)) (fun i11 => some ((-1), μ8))) (fun i5 => bd2 (fX11_squareAt F a2 μ2) fun r15 μ14 => oel r15 (some ((-1), μ14)) (fun i17 => if a1 = a2 then (some ((-1), μ14)) else (if (-1) ≤ a3 then (none) else (some ((-1), μ14)))))
set_option maxRecDepth 20000 in
set_option maxHeartbeats 4000000 in
theorem nX11_bring {l : Launch} {k : Kx} {F : Nat} {a1 : Int32} {a2 : Int32} {a3 : Int32} {μ μ' : Mm} {r : Int32} (hk : kok k) (e_this : kex k 11 0) (hf : fX11_bring_n F a1 a2 a3 μ = some (r, μ')) : MM l k 6 yX11_bring bX11_bring 6 (some .int) [.ref (kad k 11 0), .int a1, .int a2, .int a3] μ (some (.int r)) μ' := by
  refine MM.of (lv := [(0, .ref (kad k 11 0)), (1, .int a1), (2, .int a2), (3, .int a3)]) (plainFor_of_name (by decide)) hk (Nat.le_of_ble_eq_true rfl) rfl (fun z hl hx => ?_)
  subst hl
  have hx : Ok z k bX11_bring 6 "RopeDance" (some .int) 6 (0, 0) := hx
  unfold fX11_bring_n at hf
  refine r_aloadn hx 0 rfl rfl dX11_bring_0 ?_
  refine r_iloadn hx 1 rfl rfl dX11_bring_1 ?_
  obtain ⟨r3, μ2, c1, hf⟩ := f_bd2 hf
  refine r_callV hx (As := [.int a1]) (rest := []) (st1 := [rp k 5 r3]) (c := 11) (i := 0) (TT := T11) (N := 12) MK_X11_squareAt rfl wi_X11_squareAt we_X11_squareAt wm_X11_98 ⟨Nat.le_refl _, Nat.le_refl _⟩ (cX11_squareAt hk e_this c1) e_this (Nat.le_of_ble_eq_true rfl) rfl rfl (Nat.le_of_ble_eq_true rfl) rfl dX11_bring_2 (fun hb4 => ?_)
  cases r3 with
  | none =>
    have hf := f_on hf
    refine r_astoreN (lv' := [(4, .null), (0, .ref (kad k 11 0)), (1, .int a1), (2, .int a2), (3, .int a3)]) hx (Nat.le_of_ble_eq_true rfl) rfl dX11_bring_5 ?_
    refine r_aloadn hx 1 rfl rfl dX11_bring_7 ?_
    refine r_iloadn hx 3 rfl rfl dX11_bring_8 ?_
    obtain ⟨r9, μ8, c7, hf⟩ := f_bd2 hf
    refine r_callV hx (As := [.int a2]) (rest := []) (st1 := [rp k 5 r9]) (c := 11) (i := 0) (TT := T11) (N := 12) MK_X11_squareAt rfl wi_X11_squareAt we_X11_squareAt wm_X11_98 ⟨Nat.le_refl _, Nat.le_refl _⟩ (cX11_squareAt hk e_this c7) e_this (Nat.le_of_ble_eq_true rfl) rfl rfl (Nat.le_of_ble_eq_true rfl) rfl dX11_bring_9 (fun hb10 => ?_)
    cases r9 with
    | none =>
      have hf := f_on hf
      refine r_astoreN (lv' := [(5, .null), (4, .null), (0, .ref (kad k 11 0)), (1, .int a1), (2, .int a2), (3, .int a3)]) hx (Nat.le_of_ble_eq_true rfl) rfl dX11_bring_12 ?_
      refine r_aloadN hx 1 rfl dX11_bring_14 ?_
      refine r_nullN (tgt := 34) hx rfl dX11_bring_16 ?_
      refine r_iconst hx ci_m1 dX11_bring_34 ?_
      exact r_iret hx hf dX11_bring_35
    | some i11 =>
      have hf := f_os hf
      have e12 : kex k 5 i11 := xX11_squareAt hk e_this c7
      refine r_astore (lv' := [(5, .ref (kad k 5 i11)), (4, .null), (0, .ref (kad k 11 0)), (1, .int a1), (2, .int a2), (3, .int a3)]) hx (Nat.le_of_ble_eq_true rfl) rfl dX11_bring_12 ?_
      refine r_aloadN hx 1 rfl dX11_bring_14 ?_
      refine r_nullN (tgt := 34) hx rfl dX11_bring_16 ?_
      refine r_iconst hx ci_m1 dX11_bring_34 ?_
      exact r_iret hx hf dX11_bring_35
  | some i5 =>
    have hf := f_os hf
    have e6 : kex k 5 i5 := xX11_squareAt hk e_this c1
    refine r_astore (lv' := [(4, .ref (kad k 5 i5)), (0, .ref (kad k 11 0)), (1, .int a1), (2, .int a2), (3, .int a3)]) hx (Nat.le_of_ble_eq_true rfl) rfl dX11_bring_5 ?_
    refine r_aloadn hx 1 rfl rfl dX11_bring_7 ?_
    refine r_iloadn hx 3 rfl rfl dX11_bring_8 ?_
    obtain ⟨r15, μ14, c13, hf⟩ := f_bd2 hf
    refine r_callV hx (As := [.int a2]) (rest := []) (st1 := [rp k 5 r15]) (c := 11) (i := 0) (TT := T11) (N := 12) MK_X11_squareAt rfl wi_X11_squareAt we_X11_squareAt wm_X11_98 ⟨Nat.le_refl _, Nat.le_refl _⟩ (cX11_squareAt hk e_this c13) e_this (Nat.le_of_ble_eq_true rfl) rfl rfl (Nat.le_of_ble_eq_true rfl) rfl dX11_bring_9 (fun hb16 => ?_)
    cases r15 with
    | none =>
      have hf := f_on hf
      refine r_astoreN (lv' := [(5, .null), (4, .ref (kad k 5 i5)), (0, .ref (kad k 11 0)), (1, .int a1), (2, .int a2), (3, .int a3)]) hx (Nat.le_of_ble_eq_true rfl) rfl dX11_bring_12 ?_
      refine r_aload hx 1 rfl dX11_bring_14 ?_
      refine r_nullS hx dX11_bring_16 ?_
      refine r_aloadN hx 0 rfl dX11_bring_19 ?_
      refine r_nullN (tgt := 34) hx rfl dX11_bring_21 ?_
      refine r_iconst hx ci_m1 dX11_bring_34 ?_
      exact r_iret hx hf dX11_bring_35
    | some i17 =>
      have hf := f_os hf
      have e18 : kex k 5 i17 := xX11_squareAt hk e_this c13
      refine r_astore (lv' := [(5, .ref (kad k 5 i17)), (4, .ref (kad k 5 i5)), (0, .ref (kad k 11 0)), (1, .int a1), (2, .int a2), (3, .int a3)]) hx (Nat.le_of_ble_eq_true rfl) rfl dX11_bring_12 ?_
      refine r_aload hx 1 rfl dX11_bring_14 ?_
      refine r_nullS hx dX11_bring_16 ?_
      refine r_aload hx 0 rfl dX11_bring_19 ?_
      refine r_nullS hx dX11_bring_21 ?_
      refine r_iloadn hx 3 rfl rfl dX11_bring_24 ?_
      refine r_iloadn hx 4 rfl rfl dX11_bring_25 ?_
      refine r_iceq (tgt := 34) hx rfl dX11_bring_26 (fun q19 => ?_) (fun q19 => ?_)
      · have hf := (f_ite hf).1 q19
        refine r_iconst hx ci_m1 dX11_bring_34 ?_
        exact r_iret hx hf dX11_bring_35
      · have hf := (f_ite hf).2 q19
        refine r_iloadn hx 5 rfl rfl dX11_bring_29 ?_
        refine r_iconst hx ci_m1 dX11_bring_30 ?_
        refine r_icge (tgt := 36) hx rfl dX11_bring_31 (fun q20 => ?_) (fun q20 => ?_)
        · have hf := (f_ite hf).1 q20
          refine r_aloadn hx 2 rfl rfl dX11_bring_36 ?_
          refine r_aload hx 1 rfl dX11_bring_37 ?_
          refine r_aload hx 0 rfl dX11_bring_39 ?_
          refine r_iloadn hx 5 rfl rfl dX11_bring_41 ?_
          exact f_no hf
        · have hf := (f_ite hf).2 q20
          refine r_iconst hx ci_m1 dX11_bring_34 ?_
          exact r_iret hx hf dX11_bring_35
