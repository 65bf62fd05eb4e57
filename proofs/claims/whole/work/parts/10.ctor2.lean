/-! CONSTRUCTORS, the rows on raw objects -/
theorem wdr_set {k : Kx} {μ : Mm} {xs : va_W} {L : List (Nat × Nat)} {H H1 : Heap} {p a : Nat} {e e' : va_E} (hw : wdr (kL k L) μ xs H) (he : xs[p]? = some (a, e)) (h1 : va_at (kD k) classes (a, e') H1) (oq : ∀ q : Nat, q ≠ a → H1[q]? = H[q]?) : wdr (kL k L) μ (xs.set p (a, e')) H1 := by
  obtain ⟨g1, g2, g3, g4, g5⟩ := hw
  have hm := List.mem_of_getElem? he
  have hin : ∀ x ∈ xs.set p (a, e'), ∃ y ∈ xs, y.1 = x.1 := fun x hx => by
    rcases List.mem_or_eq_of_mem_set hx with h | h
    · exact ⟨x, h, rfl⟩
    · exact ⟨_, hm, by rw [h]⟩
  refine ⟨⟨fun c i he' => (g1.1 c i he').kept (oq _ (g4 c i _ he' hm)), fun q e he' => (g1.2.1 q e he').kept (oq _ (g5 q e _ he' hm)), g1.2.2⟩, va_P.set g2 g3 he h1 oq, va_D.set g3 he, fun c i q he' hq => ?_, fun q e x hq hx => ?_⟩
  · obtain ⟨y, hy, e1⟩ := hin q hq
    rw [← e1]; exact g4 c i y he' hy
  · obtain ⟨y, hy, e1⟩ := hin x hx
    rw [← e1]; exact g5 q e y hq hy
theorem vaD_left {A : Nat → Prop} {w1 w2 : va_W} (h : va_D A (w1 ++ w2)) : va_D A w1 := by
  have key : ∀ (i : Nat) (p : Nat × va_E), w1[i]? = some p → (w1 ++ w2)[i]? = some p := fun i p hp => by
    rw [List.getElem?_append_left (List.getElem?_eq_some_iff.mp hp).1]; exact hp
  exact ⟨fun i j p q hi hj e => h.1 i j p q (key i p hi) (key j q hj) e, fun i p hp => h.2 i p (key i p hp)⟩
theorem vaD_last {A : Nat → Prop} {w1 : va_W} {x q : Nat × va_E} (h : va_D A (w1 ++ [x])) (hq : q ∈ w1) : q.1 ≠ x.1 := by
  obtain ⟨j, hj⟩ := List.getElem?_of_mem hq
  have hlt := (List.getElem?_eq_some_iff.mp hj).1
  intro e
  have h1 : (w1 ++ [x])[j]? = some q := by rw [List.getElem?_append_left hlt]; exact hj
  have h2 : (w1 ++ [x])[w1.length]? = some x := by rw [List.getElem?_append_right (Nat.le_refl _), Nat.sub_self]; rfl
  have := h.1 j w1.length q x h1 h2 e
  omega
theorem vaP_left {D : va_G} {cl : List vw_C} {H : Heap} {w1 w2 : va_W} (h : va_P D cl (w1 ++ w2) H) : va_P D cl w1 H := fun j x hx => h j x (by rw [List.getElem?_append_left (List.getElem?_eq_some_iff.mp hx).1]; exact hx)
theorem vaP_mem {D : va_G} {cl : List vw_C} {H : Heap} {w1 : va_W} {x : Nat × va_E} (h : va_P D cl w1 H) (hx : x ∈ w1) : va_at D cl x H := by
  obtain ⟨j, hj⟩ := List.getElem?_of_mem hx
  exact h j x hj
theorem preC_blind {k : Kx} {L N : List (Nat × Nat)} {μ : Mm} {xs : va_W} {av : List Value} : FrameBlind (va_Pc av (preC k L N μ xs)) := fun a U g mk q => by
  obtain ⟨q0, q1, q2, q3, q4, q5, q6⟩ := q
  exact ⟨q0, q1, va_K.moved (u := U) (U := U.calling g mk a) (Vm.Alike.refl U.vm) q2, rs_same (u := U) (U := U.calling g mk a) rfl q3, q4, q5, ao_moved (u := U) (U := U.calling g mk a) (Vm.Alike.refl U.vm) q6⟩
def ra (k : Kx) (t i n : Nat) : (Nat → Int32) ⊕ (Nat → Int64) ⊕ (Nat → UInt32) ⊕ (Nat → UInt64) ⊕ (Nat → Option Nat) := .inr (.inr (.inr (.inr (fun j => if j < n then some (kad k (re t i j).1 (re t i j).2) else none))))
def zrR (μ : Mm) (off n : Nat) : Mm := ((fun x y z => if x = 92 ∧ off ≤ y ∧ y < off + n then 0 else μ.1 x y z), (fun x y z => if x = 92 ∧ off ≤ y ∧ y < off + n then 0 else μ.2 x y z))
theorem arrV_congr (cA : ClassId) (n : Nat) {f g : Nat → Value} (h : ∀ j, j < n → f j = g j) : arrV cA n f = arrV cA n g := by
  unfold arrV
  congr 2
  funext j
  exact h j.1 j.2
theorem outer_arr (c : ClassId) (N h0 : Nat) : ∀ i : Nat, Jvm.Free.Multi.outerC c N h0 i = arrV c N (fun j => va_rf (if j < i then some (h0 + 1 + j) else none))
  | 0 => by
    show ({ cls := c, slots := Array.replicate N .null, vm := .none } : Cell) = _
    rw [arrV_new]
    exact arrV_congr c N (fun j _ => by simp [va_rf])
  | i + 1 => by
    show (Jvm.Free.Multi.outerC c N h0 i).setSlot i (.ref (h0 + 1 + i)) = _
    rw [outer_arr c N h0 i, arrV_store]
    refine arrV_congr c N (fun j _ => ?_)
    by_cases e : j = i
    · subst e
      simp [updV, va_rf]
    · by_cases h : j < i
      · simp [updV, e, h, Nat.lt_succ_of_lt h]
      · simp [updV, e, h, show ¬ j < i + 1 by omega]
section CRows2
variable {qb : Bool} {z : Zx} {k : Kx} {cc : ByteArray} {nL : Nat} {own : String} {h : Nat} {T : Nat × Nat} {E : Ez} {Q : State → Prop} {C : Nat × Nat} {μ' μ : Mm} {pc : Nat} {lv : List (Nat × Value)} {st : List Value} {xs : va_W} {L : List (Nat × Nat)}
theorem c_put (hx : Oc true z k cc nL own h T) {c j idx a kind : Nat} {n d : String} {ty : FieldType} {v : Value} (p : Nat) {fs : List Value} {xs' : va_W} (hF : FK c j own n d kind) (hl : Cond.fieldLink own idx own n d ∈ lw_g) (hd : parseFieldDescriptor d = some ty) (hn : narrow ty v = v) (hfit : fits ty v = true) (he : xs[p]? = some (a, .inr (c, fs))) (hfs : nf c = fs.length) (hxs : xs.set p (a, .inr (c, fs.set j v)) = xs')
    (dd : decode cc pc = .ok (.putfield idx, 3)) (kk : Gcq z (kL k L) nL Q C (pc + 3) μ xs' lv st) : Gcq z (kL k L) nL Q C pc μ xs lv (v :: .ref a :: st) := by
  obtain ⟨TT, N, ⟨hc, hin, ⟨ty0, hty⟩, hnm⟩, hN, hj, hT, -⟩ := hF
  injection hT with e1 e2
  injection e2 with e2 e3
  subst e2; subst e3; subst hN; subst hxs
  intro H locs ls hw hS hl'
  obtain ⟨hexec, hb, -, hown, hts, hK, -, hFk, -, -, -, hinit, -⟩ := hx
  have hap := va_apart (own := own) hts hin ty0 hty hnm hK hc
  obtain ⟨r, g1, cell, q1, q2, q3, q4⟩ := hw.2.1 p _ he
  have hr : r = _ := Option.some.inj (g1.symm.trans hc)
  subst hr
  obtain ⟨hSl, hfc, kC, hkC, hkind⟩ := hK.1 c _ hc
  obtain ⟨cf, kf, fi, f, hi, hsl⟩ := hSl j hj
  have hlk := hts _ hl
  have fin : ∀ H' : Heap, H'[a]? = some (cell.setSlot f.slot v) → H'.size = H.size → (∀ q, q ≠ a → H'[q]? = H[q]?) → Wz z H' (locs ++ [⟨a, f.slot⟩]) C Q (F0 (zm z) (pc + 3) ls st) := fun H' e1' e2' e3' => by
    rw [hsl] at e1' ⊢
    refine kk H' _ ls (wdr_set hw he ⟨_, hc, t_OB.to (V := updV (vp_V fs) j v) ⟨_, e1', q2, q3, t_set q4 hap hj v⟩ (fun t _ => vp_updV_set (by rw [← hfs]; exact hj) v t)⟩ e3') ⟨hS.1.put e2' e3' (hw.2.2.1.2 p _ he), e2'.trans hS.2⟩ hl'
  have hlay := hts _ (hin _ (u_in_lay hj))
  have hst := (u_facts hfc hkC (u_lays hts hin hj) hi).1
  have hi2 := hi
  rw [e1] at hi2
  by_cases hff : (TT j).2.2.2 = true
  · unfold u_lay at hlay
    rw [if_pos hff] at hlay
    have hcf : (zm z).cls = cf := by
      obtain ⟨_, _, c', _, _, _, -, -, hf', -, -, -, hown2, -⟩ := Cond.laysFinal_spec hlay
      have e1 : c' = cf := by have := hi.symm.trans hf'; simp at this; exact this.1.symm
      rw [‹(TT j).1 = own›] at hown2
      rw [← e1]; exact Option.some.inj (hown.symm.trans hown2)
    have h6 := u_fits hfc hkC hkind (Or.inr hlay) hi hd hn hfit
    exact W.putFinK hexec hb hown hlk hi2 hst hcf (hinit rfl) (by rw [q2]; exact h6) q1 q3 (by rw [hsl]; exact k2_hasslot (q4 j hj)) rfl rfl dd fin
  · unfold u_lay at hlay
    rw [if_neg hff] at hlay
    have h6 := u_store hfc hkC hkind hlay hi hd hn hfit
    exact W.putK hexec hb (f := f) ⟨hown, hlk, ⟨_, _, _, hi2⟩, hst⟩ (by rw [q2]; exact h6) q1 q3 (by rw [hsl]; exact k2_hasslot (q4 j hj)) rfl rfl dd fin
theorem c_get (hx : Oc qb z k cc nL own h T) {c j idx a kind : Nat} {n d : String} {v : Value} (p : Nat) {fs : List Value} (hF : FK c j own n d kind) (hl : Cond.fieldLink own idx own n d ∈ lw_g) (he : xs[p]? = some (a, .inr (c, fs))) (hv : fs[j]? = some v) (dd : decode cc pc = .ok (.getfield idx, 3)) (kk : Gcq z (kL k L) nL Q C (pc + 3) μ xs lv (v :: st)) : Gcq z (kL k L) nL Q C pc μ xs lv (.ref a :: st) := by
  obtain ⟨TT, N, ⟨hc, hin, -, -⟩, hN, hj, hT, -⟩ := hF
  injection hT with e1 e2
  injection e2 with e2 e3
  subst e1; subst e2; subst e3
  intro H locs ls hw hS hl'
  exact va_get hx.1 hx.2.1 (Ts := lw_g) hx.2.2.2.2.1 hin hx.2.2.2.1 hx.2.2.2.2.2.1 hw.2.1 p he hc j hj (hx.2.2.2.2.1 _ hl) (fun _ h9 => h9) hv dd (kk H locs ls hw hS hl')
theorem c_anew (hx : Oc qb z k cc nL own h T) {t i idx N : Nat} {x : Int32} {Cn : String} (h1 : Cond.classLink own idx Cn ∈ lw_g) (ho : (Cond.arrayOver (.object Cn)).before #[] (zs z) = true) (hak : ak t < 7) (hty : kty (ak t) = .object Cn) (hxn : x.toNatClampNeg = N) (hN : al t = N) (hneg : ¬ x < 0) (hby : N * 4 ≤ 536870912) (ha : kad k t i = (zs z).heap.size + C.1) (hCT : C.1 + 1 ≤ T.1 ∧ C.2 + N ≤ T.2) (d : decode cc pc = .ok (.anewarray idx, 3))
    (kk : Gcq z (kL k L) nL Q (C.1 + 1, C.2 + N) (pc + 3) μ (xs ++ [(kad k t i, .inl (kA k (ak t), (N, ra k t i 0)))]) lv (.ref (kad k t i) :: st)) : Gcq z (kL k L) nL Q C pc μ xs lv (.int x :: st) := by
  intro H locs ls hw hS hl
  have ha2 : kad k t i = H.size := ha.trans hS.2.symm
  subst hxn
  refine W.anew hx.1 hx.2.1 hx.2.2.2.1 (hx.2.2.2.2.1 _ h1) ho rfl d rfl hneg hby (by rw [hx.2.2.2.2.2.2.2.2.2.2.1]; exact hCT.1) (by rw [hx.2.2.2.2.2.2.2.2.2.2.1]; exact hCT.2) fun cA kA' comp f1 f2 f3 f4 => ?_
  have hcA : cA = kA k (ak t) := by
    have hK := (hx.2.2.2.2.2.1.2 (ak t) _ (ty_at hak)).2
    rw [hty] at hK
    obtain ⟨_, _, -, -, -, h9⟩ := hK
    exact Option.some.inj (f1.symm.trans h9)
  subst hcA
  generalize hH1 : H.push ({ cls := kA k (ak t), slots := Array.replicate x.toNatClampNeg .null, vm := .none } : Cell) = H1
  have z1 : H1.size = H.size + 1 := by rw [← hH1, Array.size_push]
  have e1 : H1[H.size]? = some (arrV (kA k (ak t)) x.toNatClampNeg (fun _ => .null)) := by rw [← hH1, Array.getElem?_push_size, ← arrV_new]
  have o1 : ∀ q : Nat, q < H.size → H1[q]? = H[q]? := fun q hq => by rw [← hH1, Array.getElem?_push, if_neg (Nat.ne_of_lt hq)]
  have hk := kk H1 locs ls (wdr_push hw ha2 o1 ?_ (by rw [ha2]; exact hx.2.2.2.2.2.2.2.1 _ hS.1.1))
    ⟨⟨Nat.le_trans hS.1.1 (by omega), fun x g1 g2 => (o1 x (Nat.lt_of_lt_of_le g1 hS.1.1)).trans (hS.1.2.1 x g1 g2), hS.1.2.2⟩, by have := hS.2; omega⟩ hl
  · rw [ha2] at hk
    exact hk
  · show H1[kad k t i]? = some (vp_cell _ _)
    rw [ha2, e1]
    unfold ra
    rw [vp_cell_q]
    exact congrArg some (arrV_congr _ _ (fun j _ => by simp [va_rf]))
theorem c_aast (hx : Oc qb z k cc nL own h T) {t i m N N2 c' i' : Nat} {x : Int32} {Cn : String} {TT : u_T} {xs' : va_W} (p : Nat) (he : xs[p]? = some (kad k t i, .inl (kA k (ak t), (N, ra k t i m)))) (hak : ak t < 7) (hty : kty (ak t) = .object Cn) (hc : classes[c']? = some (Cn, TT, N2)) (hr : re t i m = (c', i')) (hm : x.toNatClampNeg = m) (h0 : ¬ x < 0) (hlt : m < N) (hv : (c', i') ∈ L) (hxs : xs.set p (kad k t i, .inl (kA k (ak t), (N, ra k t i (m + 1)))) = xs') (d : decode cc pc = .ok (.aastore, 1))
    (kk : Gcq z (kL k L) nL Q C (pc + 1) μ xs' lv st) : Gcq z (kL k L) nL Q C pc μ xs lv (.ref (kad k c' i') :: .int x :: .ref (kad k t i) :: st) := by
  subst hm; subst hxs
  intro H locs ls hw hS hl
  have hc20 : c' < 20 := by
    rcases Nat.lt_or_ge c' 13 with q | q
    · omega
    · exact absurd hc (by rw [List.getElem?_eq_none (by exact q)]; exact fun h => by cases h)
  have hP := hw.1.1 c' i' hv
  rw [cel_obj hc20] at hP
  obtain ⟨r', hr', cellV, g1, g2, g3, -⟩ := hP
  have hcls := (hx.2.2.2.2.2.1.1 c' _ hc).2
  have hK := hx.2.2.2.2.2.1.2 (ak t) _ (ty_at hak)
  rw [hty] at hK
  obtain ⟨-, kA', comp, k1, k2, k3, -⟩ := hK
  have hcomp : comp = (kD k).1 c' := Option.some.inj (k3.symm.trans hcls.1)
  subst hcomp
  obtain ⟨kC, hkC, -⟩ := hcls.2
  have ha := hw.2.1 p _ he
  have ha' : H[kad k t i]? = some (vp_cell (kA k (ak t)) (N, ra k t i x.toNatClampNeg)) := ha
  refine W.aast hx.1 hx.2.1 ha' (fun q h => by cases h) (fun h => by cases h) k1 k2 rfl hkC ⟨h0, by show _ < (arrV _ _ _).slots.size; rw [arrV_size]; exact hlt⟩ g1 (fun q h => by rw [g3] at h; cases h) (by rw [g2]; exact hkC) (by rw [g2]; exact va_assign hcls) rfl rfl d fun H1 e z oq => ?_
  refine kk H1 _ ls (wdr_set hw he ?_ oq) ⟨hS.1.put z oq (hw.2.2.1.2 p _ he), z.trans hS.2⟩ hl
  show H1[kad k t i]? = some (vp_cell _ _)
  rw [e]
  unfold ra
  rw [vp_cell_q, vp_cell_q, arrV_store]
  refine congrArg some (arrV_congr _ _ (fun j _ => ?_))
  by_cases hq : j = x.toNatClampNeg
  · subst hq
    simp [updV, va_rf, hr]
    rfl
  · by_cases hlt2 : j < x.toNatClampNeg
    · simp [updV, hq, hlt2, Nat.lt_succ_of_lt hlt2]
    · simp [updV, hq, hlt2, show ¬ j < x.toNatClampNeg + 1 by omega]
/-- the last raw object is as it will be -/
theorem c_absG {c i : Nat} {e : va_E} {μ1 : Mm} {xs0 : va_W} (hxs : xs = xs0 ++ [(kad k c i, e)]) (hv : ∀ H : Heap, va_at (kD k) classes (kad k c i, e) H → va_at (kD k) classes (kad k c i, cel k μ1 c i) H) (hμ : ∀ c' i', ¬ (c' = c ∧ i' = i) → μ1.1 c' i' = μ.1 c' i' ∧ μ1.2 c' i' = μ.2 c' i') (hn : ∀ j, kd c j = 4 → μ1.1 c i j = 0) (kk : Gcq z (kL k ((c, i) :: L)) nL Q C pc μ1 xs0 lv st) : Gcq z (kL k L) nL Q C pc μ xs lv st := by
  subst hxs
  intro H locs ls hw hS hl
  obtain ⟨g1, g2, g3, g4, g5⟩ := hw
  have hlast : (kad k c i, e) ∈ xs0 ++ [(kad k c i, e)] := List.mem_append_right _ (List.mem_singleton.mpr rfl)
  have hne : ∀ c' i', (c', i') ∈ L → ¬ (c' = c ∧ i' = i) := fun c' i' he e' => g4 c' i' _ he hlast (by rw [e'.1, e'.2]; rfl)
  refine kk H locs ls ⟨⟨fun c' i' he => ?_, g1.2.1, fun c' i' j h4 he hg => ?_⟩, vaP_left g2, vaD_left g3, fun c' i' q he hq => ?_, fun q e' x he hx' => g5 q e' x he (List.mem_append_left _ hx')⟩ hS hl
  · rcases List.mem_cons.mp he with e' | he
    · injection e' with e1 e2
      subst e1; subst e2
      exact hv H (vaP_mem g2 hlast)
    · have h9 := g1.1 c' i' he
      have e9 : cel (kL k ((c, i) :: L)) μ1 c' i' = cel (kL k L) μ c' i' := cel_ne (k := kL k L) (hμ c' i' (hne c' i' he)).1 (hμ c' i' (hne c' i' he)).2
      rw [e9]
      exact h9
  · rcases List.mem_cons.mp he with e' | he
    · injection e' with e1 e2
      subst e1; subst e2
      exact absurd (hn j h4) hg
    · refine List.mem_cons_of_mem _ (g1.2.2 c' i' j h4 he (fun q => hg ?_))
      show μ1.1 c' i' j = 0
      rw [(hμ c' i' (hne c' i' he)).1]
      exact q
  · rcases List.mem_cons.mp he with e' | he
    · injection e' with e1 e2
      subst e1; subst e2
      exact (vaD_last g3 hq).symm
    · exact g4 c' i' q he (List.mem_append_left _ hq)
theorem c_abs {c i : Nat} {fs : List Value} {μ1 : Mm} {xs0 : va_W} (hc : c < 20) (hxs : xs = xs0 ++ [(kad k c i, .inr (c, fs))]) (hμ : ∀ c' i', ¬ (c' = c ∧ i' = i) → μ1.1 c' i' = μ.1 c' i' ∧ μ1.2 c' i' = μ.2 c' i') {fa : Nat → Int32} {fb : Nat → Int64} (ha : μ1.1 c i = fa) (hb : μ1.2 c i = fb) (hf : flds k c i fa fb = fs) (hn : ∀ j, kd c j = 4 → fa j = 0) (kk : Gcq z (kL k ((c, i) :: L)) nL Q C pc μ1 xs0 lv st) : Gcq z (kL k L) nL Q C pc μ xs lv st :=
  c_absG hxs (fun H hv => by rw [cel_obj hc, ha, hb, hf]; exact hv) hμ (fun j hj => by rw [ha]; exact hn j hj) kk
theorem c_absA {t i N : Nat} {xs0 : va_W} (hc : ¬ t < 20) (hak : 4 ≤ ak t) (hN : al t = N) (hxs : xs = xs0 ++ [(kad k t i, .inl (kA k (ak t), (N, ra k t i N)))]) (hk0 : ∀ j, kd t j ≠ 4) (kk : Gcq z (kL k ((t, i) :: L)) nL Q C pc μ xs0 lv st) : Gcq z (kL k L) nL Q C pc μ xs lv st := by
  subst hN
  refine c_absG hxs (fun H hv => ?_) (fun c' i' _ => ⟨rfl, rfl⟩) (fun j hj => absurd hj (hk0 j)) kk
  rw [cel_arr hc]
  have hv' : H[kad k t i]? = some (vp_cell (kA k (ak t)) (al t, ra k t i (al t))) := hv
  show H[kad k t i]? = some (vp_cell _ _)
  rw [hv', show acel k t i (μ.1 t i) (μ.2 t i) = .inr (.inr (.inr (.inr (fun j => some (kad k (re t i j).1 (re t i j).2))))) by simp [acel, show ¬ ak t < 3 by omega, show ¬ ak t = 3 by omega]]
  unfold ra
  rw [vp_cell_q, vp_cell_q]
  exact congrArg some (arrV_congr _ _ (fun j hj => by simp [hj]))
theorem c_callI (hx : Oc qb z k cc nL own h T) {st0 rest As : List Value} {y : MethodName} {b : ByteArray} {nL1 n idx h1 a : Nat} {e : va_E} {xs0 : va_W} {N L' : List (Nat × Nat)} {T1 : Nat × Nat} {μ1 : Mm} (hK : MK y b nL1 none n) (hi : Cond.instanceMethod y ∈ lw_g) (hl : Cond.methodLink own idx y ∈ lw_g) (hy : y.name = "<init>") (hCT : C.1 + T1.1 ≤ T.1 ∧ C.2 + T1.2 ≤ T.2)
    (hM : MC (zl z) (kR k xs0) h1 y b nL1 (.ref a :: As) L N T1 μ [(a, e)] L' μ1) (hxs : xs = xs0 ++ [(a, e)]) (hA : AL k N ((zs z).heap.size + C.1)) (hL : ∀ x ∈ L', x ∈ L ∨ x ∈ N ∨ kad k x.1 x.2 = a) (hh : h1 < h) (hn : As.length = n) (h0 : st0 = As.reverse ++ .ref a :: rest) (hst : (rest.map fun v => v.category).sum ≤ 8) (d : decode cc pc = .ok (.invokespecial idx, 3))
    (kk : Gcq z (kL k L') nL Q (C.1 + T1.1, C.2 + T1.2) (pc + 3) μ1 xs0 lv rest) : Gcq z (kL k L) nL Q C pc μ xs lv st0 := by
  subst h0; subst hxs
  intro H locs ls hw hS hl' TT hT X
  obtain ⟨g1, g2, g3, g4, g5⟩ := hw
  obtain ⟨m1, m2, ⟨m3, m4, m5⟩, m6⟩ := hK
  have hts := hx.2.2.2.2.1
  have hR := hx.2.2.2.2.2.2.2.2.2.2.1
  have hlast : (a, e) ∈ xs0 ++ [(a, e)] := List.mem_append_right _ (List.mem_singleton.mpr rfl)
  have hcb : CallB (zR z) (zs z) (za z) own idx y b nL1 none (.code y b nL1 none :: lw_g) (rmh h1 T1) T1.1 T1.2 n := by
    refine ⟨rfl, rfl, by rw [hR]; show h1 + 1 ≤ h; omega, by rw [hR]; show 8 + (nL1 + 11) + 30 * h1 ≤ 30 * h; omega, pay_in hts (fun w hw => ?_), List.mem_cons_self, hts _ m2, hts _ m1, ⟨m3, m4⟩, fun sig hs => ?_, hts _ hl⟩
    · rcases List.mem_cons.mp hw with rfl | q
      · exact lw_gg _ m2
      · exact lw_gg _ q
    · rw [hs] at m5
      exact (Option.some.inj m5).symm
  have hpre : ∀ U : State, U.heap = H → (zs z).WarmedH U.vm → va_Pc (.ref a :: As) (preC (kR k xs0) L N μ [(a, e)]) (Value.ref a :: As).toArray U := fun U hU hW => by
    refine ⟨rfl, ?_, va_K.moved hW.alike hx.2.2.2.2.2.1, ?_, ?_, ?_, ao_moved hW.alike hx.2.2.2.2.2.2.2.2.2.2.2.2⟩
    · rw [hU]
      refine ⟨⟨g1.1, fun q e' hq => hq.elim (g1.2.1 q e') (fun hm => vaP_mem g2 (List.mem_append_left _ hm)), g1.2.2⟩, fun j x hxj => ?_, ⟨fun i j p q hi hj _ => ?_, fun j x hxj => ?_⟩, fun c i q he hq => ?_, fun q e' x he hx' => ?_⟩
      · have := List.mem_of_getElem? hxj
        rw [List.mem_singleton.mp this]
        exact vaP_mem g2 hlast
      · have hi' := (List.getElem?_eq_some_iff.mp hi).1
        have hj' := (List.getElem?_eq_some_iff.mp hj).1
        simp at hi' hj'
        omega
      · have := List.mem_of_getElem? hxj
        rw [List.mem_singleton.mp this]
        obtain ⟨j2, hj2⟩ := List.getElem?_of_mem hlast
        exact g3.2 j2 _ hj2
      · rw [List.mem_singleton.mp hq]
        exact g4 c i _ he hlast
      · rw [List.mem_singleton.mp hx']
        rcases he with he | he
        · exact g5 q e' _ he hlast
        · exact vaD_last g3 he
    · rw [hU]
      exact rs_warm hW (rs_kept hx.2.2.2.2.2.2.1 hS.1.2.1)
    · rw [hU, hS.2]
      exact hA
    · intro q hq
      rw [hU] at hq
      exact hx.2.2.2.2.2.2.2.1 q (Nat.le_trans hS.1.1 hq)
  obtain ⟨v, st₀, t, T', L9, h0, X', hL9, e1, e2, ⟨⟨hv, hb, hw1, hsz⟩, hz, hk⟩, st9⟩ := va_runI (As := As) (rest := rest) (g := F0 (zm z) pc ls (As.reverse ++ .ref a :: rest)) ⟨hx.1, hx.2.1, hx.2.2.1, hx.2.2.2.1, hts⟩ hM ⟨hcb, hy, hts _ hi⟩ ⟨preC_blind, hpre⟩ rfl hn hl'.1 rfl (lv_room hst) d (by rw [hR]; exact hCT) TT hT X
  cases hv
  rw [h0] at hz hk hsz
  have hfin : wdr (kL k L') μ1 xs0 t.heap := by
    refine ⟨⟨hw1.1, fun q e' h => hw1.2.1 q e' (Or.inl h), hw1.2.2⟩, fun j x hxj => hw1.2.1 x.1 x.2 (Or.inr (List.mem_of_getElem? hxj)), vaD_left g3, fun c i q he hq => ?_, fun q e' x he hx' => g5 q e' x he (List.mem_append_left _ hx')⟩
    show kad k c i ≠ q.1
    rcases hL (c, i) he with h9 | h9 | h9
    · exact g4 c i q h9 (List.mem_append_left _ hq)
    · obtain ⟨j, hj⟩ := List.getElem?_of_mem h9
      have h10 : kad k c i = _ := hA j (c, i) hj
      have h11 := xs_lt g2 (List.mem_append_left _ hq)
      have h12 := hS.2
      omega
    · have h10 : kad k c i = a := h9
      rw [h10]
      exact (vaD_last g3 hq).symm
  obtain ⟨t2, a1, b1⟩ := kk T'.heap (locs ++ L9) ls (by rw [e1]; exact hfin) ⟨⟨Nat.le_trans hS.1.1 (by rw [e1]; exact hz), fun q h1 h2 => by rw [e1, hk q (Nat.lt_of_lt_of_le h1 hS.1.1) h2]; exact hS.1.2.1 q h1 h2, fun q hq => by
      rcases List.mem_append.mp hq with h | h
      · exact hS.1.2.2 q h
      · exact hL9 q h⟩, by rw [e1]; have h9 : t.heap.size = H.size + T1.1 := hsz; have := hS.2; show t.heap.size = _ + (C.1 + T1.1); omega⟩ hl' T' rfl X'
  exact ⟨t2, st9 t2 a1, b1⟩
theorem c_vret (hx : Oc true z k cc nL own h T) (d : decode cc pc = .ok (.return_, 1)) : Gc z (kL k L) nL (kL k L, T, none, none, μ) T pc μ [] lv [] := by
  intro H locs ls hw hS hl
  exact W.vret hx.1 hx.2.1 (hx.2.2.2.2.2.2.2.2.2.1 rfl) (fun t ht hW => ⟨⟨rfl, ⟨(fun q => by cases q), (fun q => by cases q)⟩, by rw [ht]; exact hw.1, by rw [ht]; exact hS.2⟩, hS.1.F ht⟩) hS.1.2.2 d hx.2.2.2.2.2.2.2.2.1
/-- no raw object is left: the walk goes on as any method's -/
theorem c_toW (hx : Oc qb z k cc nL own h T) {ret : Option FieldType} (hr : (zme z).sig.returnType = ret) (hk : kok (kL k L)) (kk : Ok z (kL k L) cc nL own ret h T → Gq z (kL k L) nL Q C pc μ lv st) : Gcq z (kL k L) nL Q C pc μ [] lv st :=
  fun H locs ls hw hS hl => kk ⟨hx.1, hx.2.1, hx.2.2.1, hx.2.2.2.1, hx.2.2.2.2.1, hx.2.2.2.2.2.1, hx.2.2.2.2.2.2.1, hk, hx.2.2.2.2.2.2.2.2.1, hr, hx.2.2.2.2.2.2.2.2.2.2.1⟩ H locs ls hw.1 hS hl
theorem c_mna (hx : Oc qb z k cc nL own h T) {t i off n m idx : Nat} {x y : Int32} (h1 : Cond.classLink own idx "[[I" ∈ lw_g) (h2 : Cond.arrayClass .int ∈ lw_g) (hak : ak t = 6) (htc : ¬ t < 20) (ht92 : t ≠ 92) (hal : al t = n) (h92 : al 92 = m) (ha92 : ak 92 = 0) (hk0 : ∀ j, kd t j ≠ 4) (hk92 : ∀ j, kd 92 j ≠ 4) (hre : ∀ j, re t i j = (92, off + j)) (hxn : x.toNatClampNeg = n) (hym : y.toNatClampNeg = m) (hx0 : ¬ x < 0) (hy0 : ¬ y < 0) (hb1 : n * 4 ≤ 536870912) (hb2 : m * 4 ≤ 536870912)
    (hA : kad k t i = (zs z).heap.size + C.1 ∧ ∀ j, j < n → kad k 92 (off + j) = (zs z).heap.size + C.1 + 1 + j) (hCT : C.1 + (1 + n) ≤ T.1 ∧ C.2 + (n + n * m) ≤ T.2) (d : decode cc pc = .ok (.multianewarray idx 2, 4))
    (kk : Gcq z (kL k ((t, i) :: ((List.range n).map (fun j => (92, off + j)) ++ L))) nL Q (C.1 + 1 + n, C.2 + n + n * m) (pc + 4) (zrR μ off n) xs lv (.ref (kad k t i) :: st)) : Gcq z (kL k L) nL Q C pc μ xs lv (.int y :: .int x :: st) := by
  subst hxn; subst hym
  intro H locs ls hw hS hl TT hT X
  obtain ⟨g1, g2, g3, g4, g5⟩ := hw
  have hR := hx.2.2.2.2.2.2.2.2.2.2.1
  obtain ⟨vm₁, cA, comp, -, fA, fC, hO, -, X', step⟩ := X.multianewarray2F hx.1 (ty := .int) hx.2.2.2.1 (hx.2.2.2.2.1 _ h1) hx.2.2.2.2.2.2.2.2.2.2.2.2.2.2 (hx.2.2.2.2.1 _ h2) (g := F0 (zm z) pc ls (.int y :: .int x :: st)) rfl (by rw [hx.2.1]; exact d) rfl hx0 hy0 hb1 hb2 (by omega) rfl rfl (by rw [hR]; exact hCT.1) (by rw [hR]; exact hCT.2)
  have hK6 : (zs z).vm.findClass ("[" ++ (FieldType.array .int).toString) = some (kA k 6) := (hx.2.2.2.2.2.1.2 6 _ (ty_at (by omega))).2
  have hK0 : (zs z).vm.findClass ("[" ++ FieldType.int.toString) = some (kA k 0) := (hx.2.2.2.2.2.1.2 0 _ (ty_at (by omega))).2
  have ec : some (kA k 6) = some cA := hK6.symm.trans fA
  cases ec
  have ec : some (kA k 0) = some comp := hK0.symm.trans fC
  cases ec
  generalize hF : Jvm.Free.Multi.fill (TT.setVm vm₁) (kA k 6) (kA k 0) x.toNatClampNeg y.toNatClampNeg (defaultValue .int) x.toNatClampNeg = F at X' step
  have hTh : (TT.setVm vm₁).heap = H := hT
  obtain ⟨f1, f2, -, -⟩ := Jvm.Free.Multi.fill_facts (TT.setVm vm₁) (kA k 6) (kA k 0) x.toNatClampNeg y.toNatClampNeg (defaultValue .int) x.toNatClampNeg
  rw [hF, hTh] at f1 f2
  have hold : ∀ q : Nat, q < H.size → F.heap[q]? = H[q]? := fun q hq => by
    have := Jvm.Free.Multi.fill_old (TT.setVm vm₁) (kA k 6) (kA k 0) x.toNatClampNeg y.toNatClampNeg (defaultValue .int) (a := q) (by rw [hTh]; exact hq) x.toNatClampNeg
    rw [hF, hTh] at this
    exact this
  have hrow : ∀ j : Nat, j < x.toNatClampNeg → F.heap[H.size + 1 + j]? = some (arrV (kA k 0) y.toNatClampNeg (fun _ => .int 0)) := fun j hj => by
    have := Jvm.Free.Multi.fill_inner (TT.setVm vm₁) (kA k 6) (kA k 0) x.toNatClampNeg y.toNatClampNeg (defaultValue .int) x.toNatClampNeg j hj
    rw [hF, hTh] at this
    rw [this, ← arrV_new]
    rfl
  rw [outer_arr] at f2
  have hsz := hS.2
  have hk1 := hA.1
  have hmem : ∀ c' i', (c', i') ∈ (t, i) :: ((List.range x.toNatClampNeg).map (fun j => ((92 : Nat), off + j)) ++ L) → (c' = t ∧ i' = i) ∨ (c' = 92 ∧ off ≤ i' ∧ i' < off + x.toNatClampNeg) ∨ (c', i') ∈ L := fun c' i' he => by
    rcases List.mem_cons.mp he with e' | he
    · injection e' with e1 e2
      exact Or.inl ⟨e1, e2⟩
    · rcases List.mem_append.mp he with he | he
      · obtain ⟨j, hj, e'⟩ := List.mem_map.mp he
        have hj' := List.mem_range.mp hj
        injection e' with e1 e2
        exact Or.inr (Or.inl ⟨e1.symm, by omega, by omega⟩)
      · exact Or.inr (Or.inr he)
  have hzr : ∀ c' i', (c', i') ∈ L → (zrR μ off x.toNatClampNeg).1 c' i' = μ.1 c' i' ∧ (zrR μ off x.toNatClampNeg).2 c' i' = μ.2 c' i' := fun c' i' he => by
    have h9 : kad k c' i' < H.size := (g1.1 c' i' he).lt
    have hno : ¬ (c' = 92 ∧ off ≤ i' ∧ i' < off + x.toNatClampNeg) := fun q => by
      have h10 := hA.2 (i' - off) (by omega)
      rw [show off + (i' - off) = i' by omega, ← q.1] at h10
      omega
    constructor <;> (funext w; exact if_neg hno)
  have hfin : wdr (kL k ((t, i) :: ((List.range x.toNatClampNeg).map (fun j => (92, off + j)) ++ L))) (zrR μ off x.toNatClampNeg) xs F.heap := by
    refine ⟨⟨fun c' i' he => ?_, fun q e' he => (g1.2.1 q e' he).kept (hold _ (g1.2.1 q e' he).lt), fun c' i' j h4 he hg => ?_⟩, xs_grow g2 hold, g3, fun c' i' q he hq => ?_, g5⟩
    · rcases hmem c' i' he with ⟨rfl, rfl⟩ | ⟨rfl, q1, q2⟩ | he
      · rw [cel_arr htc]
        show F.heap[kad k c' i']? = some (vp_cell (kA k (ak c')) _)
        rw [hk1, ← hsz, f2, hak, hal]
        rw [show acel (kL k ((c', i') :: ((List.range x.toNatClampNeg).map (fun j => (92, off + j)) ++ L))) c' i' ((zrR μ off x.toNatClampNeg).1 c' i') ((zrR μ off x.toNatClampNeg).2 c' i') = .inr (.inr (.inr (.inr (fun j => some (kad k (re c' i' j).1 (re c' i' j).2))))) by simp [acel, hak]; rfl, vp_cell_q]
        refine congrArg some (arrV_congr _ _ (fun j hj => ?_))
        rw [if_pos hj, hre j, hA.2 j hj, hsz]
      · rw [cel_arr (by omega)]
        show F.heap[kad k 92 i']? = some (vp_cell (kA k (ak 92)) _)
        have h10 := hA.2 (i' - off) (by omega)
        rw [show off + (i' - off) = i' by omega] at h10
        rw [h10, ← hsz, hrow (i' - off) (by omega), h92, ha92]
        have h11 : (zrR μ off x.toNatClampNeg).1 92 i' = fun _ => 0 := by funext w; exact if_pos ⟨rfl, q1, q2⟩
        rw [h11]
        simp [acel, ha92, vp_cell]
      · have e9 : cel (kL k ((t, i) :: ((List.range x.toNatClampNeg).map (fun j => (92, off + j)) ++ L))) (zrR μ off x.toNatClampNeg) c' i' = cel (kL k L) μ c' i' := cel_ne (k := kL k L) (hzr c' i' he).1 (hzr c' i' he).2
        rw [e9]
        exact (g1.1 c' i' he).kept (hold _ (g1.1 c' i' he).lt)
    · rcases hmem c' i' he with ⟨rfl, rfl⟩ | ⟨rfl, q1, q2⟩ | he
      · exact absurd h4 (hk0 j)
      · exact absurd h4 (hk92 j)
      · refine List.mem_cons_of_mem _ (List.mem_append_right _ (g1.2.2 c' i' j h4 he (fun q => hg ?_)))
        show (zrR μ off x.toNatClampNeg).1 c' i' j = 0
        rw [(hzr c' i' he).1]
        exact q
    · have h9 := xs_lt g2 hq
      show kad k c' i' ≠ q.1
      rcases hmem c' i' he with ⟨rfl, rfl⟩ | ⟨rfl, q1, q2⟩ | he
      · omega
      · have h10 := hA.2 (i' - off) (by omega)
        rw [show off + (i' - off) = i' by omega] at h10
        omega
      · exact g4 c' i' q he hq
  obtain ⟨t2, a1, b1⟩ := kk F.heap locs ls hfin ⟨⟨Nat.le_trans hS.1.1 (by omega), fun q q1 q2 => by rw [hold q (Nat.lt_of_lt_of_le q1 hS.1.1)]; exact hS.1.2.1 q q1 q2, hS.1.2.2⟩, by show F.heap.size = _ + (C.1 + 1 + x.toNatClampNeg); omega⟩ hl F rfl X'
  refine ⟨t2, step t2 ?_, b1⟩
  have h9 : TT.heap.size = kad k t i := by rw [hT, hk1, hsz]
  rw [h9]
  exact a1
end CRows2
