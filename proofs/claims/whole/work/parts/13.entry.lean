/-! THE LAW'S ENTRY: what the world stands on, out of the tables' words and the Statement's own premises -/
theorem ent_class {args : Array Value} {s : State} (hts : ∀ w ∈ lw_tbl, w.before args s = true) : ∀ c : Nat, ∃ x : ClassId × (Nat → Nat), ∀ q, classes[c]? = some q → u_Kn s q.1 q.2.1 q.2.2 x.1 x.2 := by
  have key : ∀ {C : String} {TT : u_T} {N n : Nat}, (∀ w ∈ u_ws C TT N, w ∈ lw_tbl) → Cond.instantiable C n ∈ lw_tbl → ∃ x : ClassId × (Nat → Nat), ∀ q : vw_C, (some (C, TT, N) : Option vw_C) = some q → u_Kn s q.1 q.2.1 q.2.2 x.1 x.2 := fun {C TT N n} h1 h2 => by
    obtain ⟨cC, iS, h⟩ := u_known (ws := lw_tbl) hts h1 (hts _ h2)
    exact ⟨(cC, iS), fun q hq => by cases hq; exact h⟩
  intro c
  match c with
  | 0 => exact key iw0 (List.mem_filter.mp win_X0).1
  | 1 => exact key iw1 (List.mem_filter.mp win_X1).1
  | 2 => exact key iw2 (List.mem_filter.mp win_X2).1
  | 3 => exact key iw3 (List.mem_filter.mp win_X3).1
  | 4 => exact key iw4 (List.mem_filter.mp win_X4).1
  | 5 => exact key iw5 (List.mem_filter.mp win_X5).1
  | 6 => exact key iw6 (List.mem_filter.mp win_X6).1
  | 7 => exact key iw7 (List.mem_filter.mp win_X7).1
  | 8 => exact key iw8 (List.mem_filter.mp win_X8).1
  | 9 => exact key iw9 (List.mem_filter.mp win_X9).1
  | 10 => exact key iw10 (List.mem_filter.mp win_X10).1
  | 11 => exact key iw11 (n := 12) (xin_1 (List.mem_of_getElem? (i := 21) rfl))
  | 12 => exact key iw12 (n := 75) (xin_6 (List.mem_of_getElem? (i := 16) rfl))
  | n + 13 => exact ⟨(0, fun _ => 0), fun q hq => by cases hq⟩
theorem ent_prim {args : Array Value} {s : State} {ty : FieldType} (hty : ∀ C, ty ≠ .object C) (h : (Cond.arrayClass ty).before args s = true) : ∃ cA : ClassId, ArrOfT s cA ty ∧ va_RA s cA ty := by
  obtain ⟨c, k, comp, h1, h2, h3⟩ := Cond.arrayClass_spec h
  refine ⟨c, fun n z => ⟨(fun k h => by cases h), k, h2, comp, h3⟩, ?_⟩
  unfold va_RA
  split
  · exact absurd rfl (hty _)
  · exact h1
theorem ent_obj {args : Array Value} {s : State} {C : String} (h : (Cond.arrayOver (.object C)).before args s = true) : ∃ cA : ClassId, ArrOfT s cA (.object C) ∧ va_RA s cA (.object C) := by
  obtain ⟨comp, c, k, h1, h2, h3, h4, h5⟩ := Cond.arrayOver_spec h
  exact ⟨c, fun n z => ⟨(fun k h => by cases h), k, h3, comp, h4⟩, k, comp, h3, h4, h1, h5⟩
theorem ent_arr {args : Array Value} {s : State} (h : (Cond.arrayOver (.array .int)).before args s = true) : ∃ cA : ClassId, ArrOfT s cA (.array .int) ∧ va_RA s cA (.array .int) := by
  obtain ⟨comp, c, k, h1, h2, h3, h4, h5⟩ := arrayOverA_spec h
  exact ⟨c, fun n z => ⟨(fun k h => by cases h), k, h3, comp, h4⟩, h5⟩
theorem ent_tys {args : Array Value} {s : State} (hts : ∀ w ∈ lw_tbl, w.before args s = true) : ∀ n : Nat, ∃ cA : ClassId, n < 7 → ArrOfT s cA (kty n) ∧ va_RA s cA (kty n) := by
  intro n
  have h0 : ∀ {ty : FieldType}, (∃ cA : ClassId, ArrOfT s cA ty ∧ va_RA s cA ty) → kty n = ty → ∃ cA : ClassId, n < 7 → ArrOfT s cA (kty n) ∧ va_RA s cA (kty n) := fun h e => by
    obtain ⟨cA, h⟩ := h
    exact ⟨cA, fun _ => by rw [e]; exact h⟩
  match n with
  | 0 => exact h0 (ent_prim (fun C h => by cases h) (hts _ (List.mem_filter.mp wac_int).1)) rfl
  | 1 => exact h0 (ent_prim (fun C h => by cases h) (hts _ (List.mem_filter.mp wac_byte).1)) rfl
  | 2 => exact h0 (ent_prim (fun C h => by cases h) (hts _ (List.mem_filter.mp wac_boolean).1)) rfl
  | 3 => exact h0 (ent_prim (fun C h => by cases h) (hts _ (List.mem_filter.mp wac_long).1)) rfl
  | 4 => exact h0 (ent_obj (hts _ (xin_1 (List.mem_of_getElem? (i := 84) rfl)))) rfl
  | 5 => exact h0 (ent_obj (hts _ (xin_2 (List.mem_of_getElem? (i := 41) rfl)))) rfl
  | 6 => exact h0 (ent_arr (hts _ (xin_2 (List.mem_of_getElem? (i := 63) rfl)))) rfl
  | n + 7 => exact ⟨0, fun h => absurd h (by omega)⟩
theorem ent_ao {args : Array Value} {s : State} (hts : ∀ w ∈ lw_tbl, w.before args s = true) : ao s :=
  ⟨hts _ (xin_1 (List.mem_of_getElem? (i := 84) rfl)), hts _ (xin_2 (List.mem_of_getElem? (i := 41) rfl)), hts _ (xin_2 (List.mem_of_getElem? (i := 63) rfl))⟩
def tmS (i : Nat) : Term := if i = 0 then .string "RopeDance$Tape" 96 else .string "RopeDance$Tape" 81
def tmW : Term := .static "RopeDance$Text" "MOST_WORTH" "[I"
theorem flat_narrow {args : Array Value} {s : State} (h : (Cond.and given_1 narrow_1).before args s = true) {w : Cond} (hw : w ∈ flatC (Cond.and given_1 narrow_1)) : w.before args s = true := flat_of_before _ h w hw
theorem fn_str : ∀ i, i < 2 → Cond.exactly (tmS i) "java/lang/String" ∈ flatC (Cond.and given_1 narrow_1) ∧ Cond.eq (.field (tmS i) "java/lang/String" "coder" "B") (.int 0) ∈ flatC (Cond.and given_1 narrow_1) ∧ Cond.arrayOf (.field (tmS i) "java/lang/String" "value" "[B") .byte ∈ flatC (Cond.and given_1 narrow_1) ∧
    Cond.eq (.length (.field (tmS i) "java/lang/String" "value" "[B")) (.int (Int32.ofNat (lenS.getD i 0))) ∈ flatC (Cond.and given_1 narrow_1) := by decide +kernel
theorem fn_byt : ∀ i, i < 2 → ∀ j, j < lenS.getD i 0 → Cond.eq (.elem (.field (tmS i) "java/lang/String" "value" "[B") (.int (Int32.ofNat j))) (.int ((bytS.getD i []).getD j 0)) ∈ flatC (Cond.and given_1 narrow_1) := by decide +kernel
theorem fn_ne : Cond.not (Cond.eq (tmS 0) (tmS 1)) ∈ flatC (Cond.and given_1 narrow_1) := by decide +kernel
theorem fn_most : Cond.arrayOf tmW .int ∈ flatC (Cond.and given_1 narrow_1) ∧ Cond.eq (.length tmW) (.int (Int32.ofNat 4)) ∈ flatC (Cond.and given_1 narrow_1) ∧ ∀ j, j < 4 → Cond.eq (.elem tmW (.int (Int32.ofNat j))) (.int (mostW.getD j 0)) ∈ flatC (Cond.and given_1 narrow_1) := by decide +kernel
theorem fn_stat : Cond.eq (.static "java/lang/String" "COMPACT_STRINGS" "Z") (.int 1) ∈ flatC (Cond.and given_1 narrow_1) ∧ Cond.isRef (.static "jdk/internal/util/Preconditions" "SIOOBE_FORMATTER" "Ljava/util/function/BiFunction;") ∈ flatC (Cond.and given_1 narrow_1) := by decide +kernel
/-- the world's ground: the classes' numbers, the arrays' numbers, and the three older things -/
theorem ent {b : Nat} {s : State} (hts : ∀ w ∈ lw_tbl, w.before #[Value.ref b] s = true) (hpre : (Cond.and given_1 narrow_1).before #[Value.ref b] s = true) : ∃ (D : va_G) (A : Nat → ClassId) (T : Nat) (Sa Sv : Nat → Nat) (Q : Option Nat), ∀ (ad : Nat → Nat → Nat) (ex : Nat → Nat → Prop) (ro : Nat → va_E → Prop),
    wk (D, A, ad, ex, ro, (fun q => s.heap.size ≤ q), T, Sa, Sv, Q) s ∧ rs (D, A, ad, ex, ro, (fun q => s.heap.size ≤ q), T, Sa, Sv, Q) s s.heap := by
  have hF : ∀ a : Nat, a < s.heap.size → ¬ s.heap.size ≤ a := fun a h q => Nat.not_le.mpr h q
  obtain ⟨f, hf⟩ := Classical.axiomOfChoice (ent_class hts)
  obtain ⟨A, hA⟩ := Classical.axiomOfChoice (ent_tys hts)
  obtain ⟨T, hT1, hT2⟩ := va_Tof (s := s) (args := #[Value.ref b]) (tm := tmW) (ty := .int) (N := 4) (f := fun j => .int (mostW.getD j 0)) (A := fun q => s.heap.size ≤ q) (by decide) (flat_narrow hpre fn_most.1) (va_eqt (flat_narrow hpre fn_most.2.1)) (fun j hj => va_eqt (flat_narrow hpre (fn_most.2.2 j hj))) hF
  obtain ⟨Sa, Sv, hS1, hS2⟩ := vk_Sof (s := s) (args := #[Value.ref b]) (N := 2) (tm := tmS) (len := lenS) (byt := bytS) (A := fun q => s.heap.size ≤ q) (by decide) (fun i hi => flat_narrow hpre (fn_str i hi).1) (fun i hi => flat_narrow hpre (fn_str i hi).2.1) (fun i hi => flat_narrow hpre (fn_str i hi).2.2.1) (fun i hi => flat_narrow hpre (fn_str i hi).2.2.2) (fun i hi j hj => flat_narrow hpre (fn_byt i hi j hj))
    (fun i j hi hj hne => by
      rcases (show (i = 0 ∧ j = 1) ∨ (i = 1 ∧ j = 0) by omega) with ⟨rfl, rfl⟩ | ⟨rfl, rfl⟩
      · exact Or.inl (flat_narrow hpre fn_ne)
      · exact Or.inr (flat_narrow hpre fn_ne)) hF
  have hZ1 : va_Z "RopeDance$Text" "MOST_WORTH" "[I" (.ref T) (fun q => s.heap.size ≤ q) s s.heap := va_Zof (args := #[Value.ref b]) (hts _ (xin_1 (List.mem_of_getElem? (i := 129) rfl))) (hts _ (xin_1 (List.mem_of_getElem? (i := 3) rfl))) hT1 hF
  have hZ2 : va_Z "java/lang/String" "COMPACT_STRINGS" "Z" (.int 1) (fun q => s.heap.size ≤ q) s s.heap := va_Zof (args := #[Value.ref b]) (hts _ (xin_2 (List.mem_of_getElem? (i := 231) rfl))) (hts _ (xin_1 (List.mem_of_getElem? (i := 12) rfl))) (va_eqt (flat_narrow hpre fn_stat.1)) hF
  have hZ3 : va_Zq "jdk/internal/util/Preconditions" "SIOOBE_FORMATTER" "Ljava/util/function/BiFunction;" (fun q => s.heap.size ≤ q) s s.heap := va_Zqof (args := #[Value.ref b]) (hts _ (xin_3 (List.mem_of_getElem? (i := 7) rfl))) (hts _ (xin_1 (List.mem_of_getElem? (i := 14) rfl))) (flat_narrow hpre fn_stat.2) hF
  have hZ3' : ∃ Q : Option Nat, va_Z "jdk/internal/util/Preconditions" "SIOOBE_FORMATTER" "Ljava/util/function/BiFunction;" (va_rf Q) (fun q => s.heap.size ≤ q) s s.heap := by
    rcases hZ3 with h | ⟨t, h⟩
    · exact ⟨none, h⟩
    · exact ⟨some t, h⟩
  obtain ⟨Q, hQ⟩ := hZ3'
  refine ⟨(fun c => (f c).1, fun c => (f c).2), A, T, Sa, Sv, Q, fun ad ex ro => ⟨⟨fun c q hq => hf c q hq, fun n q hq => ?_⟩, hZ1, hT2, hS1, hZ2, hQ, vk_R.of (hts _ (xin_2 (List.mem_of_getElem? (i := 221) rfl))) (hS2 0 (by decide)), vk_R.of (hts _ (xin_3 (List.mem_of_getElem? (i := 37) rfl))) (hS2 1 (by decide)), va_Nw.of rfl (hts _ (xin_5 (List.mem_of_getElem? (i := 121) rfl)))⟩⟩
  have hn : n < 7 := (List.getElem?_eq_some_iff.mp hq).1
  have e := hq.symm.trans (ty_at (k := ((fun c => (f c).1, fun c => (f c).2), A, ad, ex, ro, (fun q => s.heap.size ≤ q), T, Sa, Sv, Q)) hn)
  cases e
  exact hA n hn
