/-! THE CLAIM OUT OF ONE WALK OF THE LAW'S BODY. Your part is whole_start (and what it stands on); all else here is the same for every law, but numbers. -/
def R_law : String := "RopeDanceLaw"
def lw_P (b : Addr) (xs : List Int32) (args : Array Value) (s : State) : Prop := args = #[.ref b] ∧ s.IntsAt b xs ∧ xs.length ≤ 3072 ∧ (Jvm.Cond.and given_1 narrow_1).before args s = true
def lw_Q (_ : Array Value) (s : State) (o : Outcome) (t : State) : Prop := o = .returned (some (.int 1)) ∧ Framed s o t [] 600000 7302250
def lw_Z (below : List Frame) (a : Array Value) (s : State) : State → Prop := fun t => ∃ o, t.status = .running ∧ Ended t below o ∧ lw_Q a s o t
/-- the law's own end, with 1 on the stack, nothing written that was there before, its room as the claim has it -/
theorem lw_ret {p : Program} {l : Launch} {e : Env} {s : State} {m : MethodId} {below : List Frame} {meth : Method} {c : Code} {b : Nat} (hx : p.tables.exec = Jvm.exec) (hb : c.code = code) (hr : meth.sig.returnType = ret) (hlocks : meth.locks = false) {pc : Nat} {H : Heap} {ls : Array Slot} (hdg : decode code pc = .ok (.ireturn, 1)) : W p l e room_1 s m #[Value.ref b] below meth c H [] 600000 7302250 (lw_Z below #[Value.ref b] s) (F0 m pc ls [.int 1]) := by
  intro T hT X
  obtain ⟨fs, hret, hrun, hended, hW, hframe⟩ := X.leave (v := some (.int 1)) (hlocks := hlocks) (fun h => by rw [hr] at h; cases h)
  have hmeth' : T.vm.method? m = some meth := X.method'
  refine ⟨T.setFrames fs, ?_, .returned (some (.int 1)), hrun, hended, rfl, ⟨_, rfl⟩, hW, hframe⟩
  jvm_step X.here [X.here.top, hx, hb, hdg, hmeth', hr, ret, narrow_b1]
  (try refine ⟨rfl, ?_⟩); (try refine ⟨rfl, ?_⟩)
  first | (intro acts; rw [hret _ acts rfl rfl rfl]) | rw [hret _ _ rfl rfl rfl]
  exact Steps.refl _
/-- what holds at the law's entry: the machine, the code, the tables' words (any of lw_tbl by 'hts w (by decide +kernel)'), the script of L ints xs at the cell b, what the Statement gives of the start (any of its parts by flat_of_before) -/
def lw_At (p : Program) (s : State) (m : MethodId) (meth : Method) (c : Code) (b L : Nat) (xs : Nat → Int32) : Prop :=
  p.tables.exec = Jvm.exec ∧ c.code = code ∧ meth.sig.returnType = ret ∧ c.maxLocals = 4 ∧ s.vm.findClass R_law = some m.cls ∧ (∀ w ∈ lw_tbl, w.before #[Value.ref b] s = true) ∧ va_X b L xs s s.heap ∧ b < s.heap.size ∧ meth.locks = false ∧ (Jvm.Cond.and given_1 narrow_1).before #[Value.ref b] s = true
/-! THE LAW'S ENTRY AND END -/
def Starts (F : Nat) (Iv : Bool → Bool → Mm → Mm → Prop) : Prop := ∃ (μ0 m1 m2 m3 : Mm), fX8_init F 0 (iX8_0 (iX7 μ0)) = some m1 ∧ fX8_init F 1 (iX8_1 m1) = some m2 ∧ fX12_init F (iX12 (iX11 m2)) = some m3 ∧ gi m3 11 0 10 = 0 ∧ gi m3 11 0 11 = 0 ∧ Iv false false m3 m3
theorem kok_raw {B : Bx} {v : Bool} {L : List (Nat × Nat)} {e : va_E} (hL : ∀ x ∈ L, x ∈ NN v) (h11 : ∀ x ∈ L, x ≠ (11, 0)) (hn : (11, 0) ∈ NN v) (hc : clo L = true) : kok (kL (kR (kR (kB B (ad v (b0 B)) ro0) []) [(ad v (b0 B) 11 0, e)]) L) := by
  refine kok_of (B := B) (v := v) (ro := fun q e' => (ro0 q e' ∨ (q, e') ∈ ([] : va_W)) ∨ (q, e') ∈ [(ad v (b0 B) 11 0, e)]) (L := L) hL (fun q e' h x hx => ?_) hc
  rcases h with (h | h) | h
  · cases h
  · cases h
  · have h1 : q = ad v (b0 B) 11 0 := congrArg Prod.fst (List.mem_singleton.mp h)
    subst h1
    intro h2
    have h4 : b0 B + ix (NN v) x = b0 B + ix (NN v) (11, 0) := h2
    exact h11 x hx (ix_inj (hL _ hx) hn (Nat.add_left_cancel h4))
theorem L8_ok : (∀ x ∈ lX8_0 (lX7 []), x ∈ NN false) ∧ (∀ x ∈ lX8_0 (lX7 []), x ≠ (11, 0)) ∧ clo (lX8_0 (lX7 [])) = true := by decide +kernel
theorem L81_ok : (∀ x ∈ lX8_1 (lX8_0 (lX7 [])), x ∈ NN false) ∧ (∀ x ∈ lX8_1 (lX8_0 (lX7 [])), x ≠ (11, 0)) ∧ clo (lX8_1 (lX8_0 (lX7 []))) = true := by decide +kernel
theorem N11_ok : (11, 0) ∈ NN false := by decide +kernel
theorem L12_ok : (∀ x ∈ lX12 (lX11 []), x ∈ NN false) ∧ clo (lX12 (lX11 [])) = true := by decide +kernel
theorem L12_C : ∀ x ∈ Lc 0, x ∈ lX12 (lX11 []) := by decide +kernel
theorem L12_M : ∀ x ∈ Lm, x ∈ lX12 (lX11 []) := by decide +kernel
theorem kok_ro0 {B : Bx} {v : Bool} {L : List (Nat × Nat)} (hL : ∀ x ∈ L, x ∈ NN v) (hc : clo L = true) : kok (kL (kB B (ad v (b0 B)) ro0) L) := kok_of hL (fun q e h => by cases h) hc
/-- one memory is cut into the class's and the reference's -/
theorem wd_split {B : Bx} {m : Mm} {H : Heap} (h10 : gi m 11 0 10 = 0) (h11 : gi m 11 0 11 = 0) (h : wd (kL (kB B (ad false (b0 B)) ro0) (lX12 (lX11 []))) m H) : wd (kC B 0 false m) m H := by
  refine ⟨fun c i he => ?_, fun q e hq => ?_, fun c i j h4 he hg => ?_⟩
  · exact cel_re (k := kL (kB B (ad false (b0 B)) ro0) (lX12 (lX11 []))) (k' := kL (kB B (ad false (b0 B)) (roC B (ad false (b0 B)) Lm m)) (Lc 0)) (L := Lc 0) rfl rfl Lc0_clo he (fun x hx => rfl) (fun j h4 hg => by
      obtain ⟨rfl, hj⟩ := kd4 h4
      have hi : i = 0 := Lc_11 0 (by decide) _ he rfl
      subst hi
      rcases hj with rfl | rfl
      · exact absurd h10 hg
      · exact absurd h11 hg) (h.1 c i (L12_C _ he))
  · obtain ⟨y, hy, rfl, rfl⟩ := hq
    exact cel_re (k := kL (kB B (ad false (b0 B)) ro0) (lX12 (lX11 []))) (k' := kB B (ad false (b0 B)) ro0) (L := Lm) rfl rfl Lm_clo.1 hy (fun x hx => rfl) (fun j h4 _ => absurd (kd4 h4).1 (Lm_11 _ hy)) (h.1 y.1 y.2 (L12_M _ hy))
  · obtain ⟨rfl, hj⟩ := kd4 h4
    have hi : i = 0 := Lc_11 0 (by decide) _ he rfl
    subst hi
    rcases hj with rfl | rfl
    · exact absurd h10 hg
    · exact absurd h11 hg
theorem l_split {z : Zx} {B : Bx} {nL : Nat} {Q : State → Prop} {C : Nat × Nat} {pc : Nat} {m : Mm} {lv : List (Nat × Value)} {st : List Value} (h10 : gi m 11 0 10 = 0) (h11 : gi m 11 0 11 = 0) (kk : Gq z (kC B 0 false m) nL Q C pc m lv st) : Gq z (kL (kB B (ad false (b0 B)) ro0) (lX12 (lX11 []))) nL Q C pc m lv st :=
  fun H locs ls hw hS hl => kk H locs ls (wd_split h10 h11 hw) (Sz_F (f := fun q => b0 B ≤ q) rfl kF_C hS) hl
theorem lw_retR {p : Program} {l : Launch} {e : Env} {R : Room} {s : State} {m : MethodId} {below : List Frame} {meth : Method} {c : Code} {b : Nat} (hx : p.tables.exec = Jvm.exec) (hb : c.code = code) (hr : meth.sig.returnType = ret) (hlocks : meth.locks = false) {pc : Nat} {H : Heap} {ls : Array Slot} (hdg : decode code pc = .ok (.ireturn, 1)) : W p l e R s m #[Value.ref b] below meth c H [] 600000 7302250 (lw_Z below #[Value.ref b] s) (F0 m pc ls [.int 1]) := by
  intro T hT X
  obtain ⟨fs, hret, hrun, hended, hW, hframe⟩ := X.leave (v := some (.int 1)) (hlocks := hlocks) (fun h => by rw [hr] at h; cases h)
  have hmeth' : T.vm.method? m = some meth := X.method'
  refine ⟨T.setFrames fs, ?_, .returned (some (.int 1)), hrun, hended, rfl, ⟨_, rfl⟩, hW, hframe⟩
  jvm_step X.here [X.here.top, hx, hb, hdg, hmeth', hr, ret, narrow_b1]
  (try refine ⟨rfl, ?_⟩); (try refine ⟨rfl, ?_⟩)
  first | (intro acts; rw [hret _ acts rfl rfl rfl]) | rw [hret _ _ rfl rfl rfl]
  exact Steps.refl _
set_option maxRecDepth 20000 in
set_option maxHeartbeats 4000000 in
theorem l_entry {z : Zx} {B : Bx} {b L F : Nat} {xs : Nat → Int32} {Q : State → Prop} {Iv : Bool → Bool → Mm → Mm → Prop} (hS : Steps F Iv) (hI : Starts F Iv) (hg : Og z B code 4 "RopeDanceLaw" (some .boolean) 13 TL) (hX : va_X b L xs (zs z) (zs z).heap) (hb : b < (zs z).heap.size) (hL : L ≤ 3072)
    (hend : ∀ (σ : Nat) (v : Bool) (μ ν : Mm) (j : Nat), σ < 5 → Gq z (kC B σ v ν) 4 Q (Cs σ) 1463 μ (lvL B v b (Int32.ofNat j)) []) : ∃ μ0, Gcq z (kL (kB B (ad false (b0 B)) ro0) []) 4 Q (0, 0) 0 μ0 [] [(0, .ref b)] [] := by
  obtain ⟨μ0, m1, m2, m3, i1, i2, i3, i10, i11, hI⟩ := hI
  have h0 := hg.2.2.2.2.2.2.2.2.2.1
  have hA : AL (kB B (ad false (b0 B)) ro0) (NN false) (zs z).heap.size := by rw [← h0]; exact AL_NN
  have hz : Oc false z (kB B (ad false (b0 B)) ro0) code 4 "RopeDanceLaw" 13 TL := oc_of hg
  have k1 := kok_raw (B := B) (v := false) (e := .inr (11, [.ref (ad false (b0 B) 7 0), .null, .null, .null, .null, .null, .null, .null, .null, .null, .null, .null])) L8_ok.1 L8_ok.2.1 N11_ok L8_ok.2.2
  have k2 := kok_raw (B := B) (v := false) (e := .inr (11, [.ref (ad false (b0 B) 7 0), .null, .ref (ad false (b0 B) 8 0), .null, .null, .null, .null, .null, .null, .null, .null, .null])) L81_ok.1 L81_ok.2.1 N11_ok L81_ok.2.2
  refine ⟨μ0, ?_⟩
  refine c_new hz (c := 11) (i := 0) (TT := T11) (ty := t11) (fs := [.null, .null, .null, .null, .null, .null, .null, .null, .null, .null, .null, .null]) rfl (xgu iw11) tok11 wcl_L_7 win_X11 wn_X11 (hA 0 _ rfl) dv11 ⟨Nat.le_of_ble_eq_true rfl, Nat.le_of_ble_eq_true rfl⟩ dL_0 ?_
  refine c_C (C' := (1, 12)) rfl ?_
  refine c_dup hz rfl dL_3 ?_
  refine c_callI hz (As := []) (rest := [.ref (kad (kB B (ad false (b0 B)) ro0) 11 0)]) (xs0 := []) (N := nX11) (L' := lX11 []) MK_X11_init wi_X11_init wm_L_9 rfl ⟨Nat.le_of_ble_eq_true rfl, Nat.le_of_ble_eq_true rfl⟩ (mX11_init (k := (kR (kB B (ad false (b0 B)) ro0) [])) k1 i1 k2 i2) rfl (AL_sub hA 1 162 rfl) (hX11) (Nat.le_of_ble_eq_true rfl) rfl rfl (Nat.le_of_ble_eq_true rfl) dL_4 ?_
  refine c_C (C' := (163, 6030)) rfl ?_
  refine c_toW hz hg.2.2.2.2.2.2.2.1 (kok_ro0 (Lc_clo 0 (by decide)).2 (Lc_clo 0 (by decide)).1) (fun hx => ?_)
  refine r_astoren (lv' := [(1, .ref (kad (kB B (ad false (b0 B)) ro0) 11 0)), (0, .ref b)]) hx rfl (by decide) rfl dL_7 ?_
  refine g_toC ?_
  refine c_new hz (c := 12) (i := 0) (TT := T12) (ty := t12) (fs := [.int 0, .null, .int 0, .null, .int 0, .null, .null, .null, .null, .null, .int 0, .int 0, .int 0, .int 0, .int 0, .int 0, .int 0, .int 0, .int 0, .int 0, .int 0, .null, .null, .null, .null, .null, .null, .null, .null, .null, .null, .int 0, .null, .null, .null, .null, .null, .int 0, .null, .null, .null, .int 0, .null, .null, .int 0, .null, .null, .int 0, .null, .null, .int 0, .null, .null, .null, .null, .null, .int 0, .int 0, .int 0, .int 0, .int 0, .int 0, .int 0, .int 0, .int 0, .int 0, .int 0, .null, .null, .null, .null, .null, .null, .null, .null]) rfl (xgu iw12) tok12 wcl_L_10 win_X12 wn_X12 (hA 163 _ rfl) dv12 ⟨Nat.le_of_ble_eq_true rfl, Nat.le_of_ble_eq_true rfl⟩ dL_8 ?_
  refine c_C (C' := (164, 6105)) rfl ?_
  refine c_dup hz rfl dL_11 ?_
  refine c_callI hz (As := []) (rest := [.ref (kad (kB B (ad false (b0 B)) ro0) 12 0)]) (xs0 := []) (N := nX12) (L' := lX12 (lX11 [])) MK_X12_init wi_X12_init wm_L_12 rfl ⟨Nat.le_of_ble_eq_true rfl, Nat.le_of_ble_eq_true rfl⟩ (mX12_init (k := (kR (kB B (ad false (b0 B)) ro0) [])) (kok_R0 (kok_ro0 L12_ok.1 L12_ok.2)) i3) rfl (AL_sub hA 164 44 rfl) (hX12) (Nat.le_of_ble_eq_true rfl) rfl rfl (Nat.le_of_ble_eq_true rfl) dL_12 ?_
  refine c_C (C' := Cs 0) rfl ?_
  refine c_toW hz hg.2.2.2.2.2.2.2.1 (kok_ro0 L12_ok.1 L12_ok.2) (fun hx => ?_)
  refine r_astoren (lv' := [(2, .ref (kad (kB B (ad false (b0 B)) ro0) 12 0)), (1, .ref (kad (kB B (ad false (b0 B)) ro0) 11 0)), (0, .ref b)]) hx rfl (by decide) rfl dL_15 ?_
  refine r_iconst (v := 0) hx (by decide) dL_16 ?_
  refine r_istoren (lv' := lvL B false b (Int32.ofNat (6 * 0))) hx rfl (by decide) rfl dL_17 ?_
  refine l_split i10 i11 ?_
  exact k_loop hS hg hX hb hL hend 513 0 (by decide) (Nat.zero_le _) 0 false m3 m3 (by decide) (Or.inl rfl) hI
theorem whole_start1 {F : Nat} {Iv : Bool → Bool → Mm → Mm → Prop} (hS : Steps F Iv) (hI : Starts F Iv) {p : Program} {e : Env} {s : State} {m : MethodId} {below : List Frame} {meth : Method} {c : Code} (l : Launch) {b L : Nat} {xs : Nat → Int32} (hL : L ≤ 3072) (C0 : lw_At p s m meth c b L xs) : W p l e room_1 s m #[Value.ref b] below meth c s.heap [] 0 0 (lw_Z below #[Value.ref b] s) (entryFrame m ([Value.ref b] : List Value).toArray 4) := by
  obtain ⟨hx, hb, hr, hml, hown, hts, hX, hbl, hlocks, hgv⟩ := id C0
  obtain ⟨D, A, T, Sa, Sv, Qo, hent⟩ := ent hts hgv
  refine W_room (R' := rmh 13 TL) ⟨Nat.le_of_ble_eq_true rfl, Nat.le_of_ble_eq_true rfl, Nat.le_of_ble_eq_true rfl, Nat.le_of_ble_eq_true rfl⟩ ?_
  have hg : Og (p, l, e, rmh 13 TL, s, m, #[Value.ref b], below, meth, c) (D, A, T, Sa, Sv, Qo, s.heap.size) code 4 "RopeDanceLaw" (some .boolean) 13 TL :=
    ⟨hx, hb, hml, hown, fun w hw => hts w (List.mem_filter.mp hw).1, hent, hlocks, hr, rfl, rfl, ent_ao hts⟩
  generalize (D, A, T, Sa, Sv, Qo, s.heap.size) = B at hg
  have hl := lv_entry ([.ref b]) (n := 4) (Nat.le_of_ble_eq_true rfl)
  rw [lg_entry_eq]
  generalize (lg_sl ([.ref b]) ++ List.replicate (4 - (lg_sl ([.ref b])).length) Slot.unset).toArray = ls at hl ⊢
  have hl : lv_has ls 4 [(0, .ref b)] := hl
  obtain ⟨μ0, hk⟩ := l_entry (Q := lw_Z below #[Value.ref b] s) hS hI hg hX hbl hL (fun σ v μ ν j hs => by
    have hv9 : ∀ (hx : Ok (p, l, e, rmh 13 TL, s, m, #[Value.ref b], below, meth, c) (kC B σ v ν) code 4 "RopeDanceLaw" (some .boolean) 13 TL), True := fun _ => trivial
    intro H locs ls hw hS2 hl2
    refine lv_iconst (v := 1) hx hb dL_1463 (by decide) ?_
    refine W.widen (Cs_le σ hs).1 (Cs_le σ hs).2 ?_
    refine va_forget (fun q hq => ?_) ?_
    · have h9 := hS2.1.2.2 q hq
      rw [kF_C] at h9
      have h10 : b0 B = s.heap.size := hg.2.2.2.2.2.2.2.2.2.1
      exact Nat.le_trans (Nat.le_of_eq h10.symm) h9
    · exact lw_retR hx hb hr hlocks dL_1464)
  exact hk s.heap [] ls ⟨⟨fun c i he => (by cases he), fun q e h => (by cases h), fun c i j h4 he => (by cases he)⟩, fun j x hx => by simp at hx, ⟨fun i j p q hi => by simp at hi, fun i p hp => by simp at hp⟩, fun c i q _ hq => by simp at hq, fun q e x _ hx => by simp at hx⟩ ⟨va_S.rf, rfl⟩ hl
