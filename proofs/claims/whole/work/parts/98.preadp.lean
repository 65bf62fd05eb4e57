theorem RD_0 {T S N L : Nat} {B : Nat → Int32} {μ ν : Mm} (hl : LC T (tkK B L) N 0 μ) (hlr : LR (tkK B L) N 0 ν) (h8 : gi μ 8 T 0 = 0 ∧ gi μ 8 T 1 = 0 ∧ gi μ 8 T 2 = 0 ∧ gi μ 8 T 7 = 0 ∧ gi μ 8 T 5 = nI 8) (h38 : ∀ k, k < 4 → gi μ 38 T k = nI (2 * k) ∧ cEnc μ T 8 [] [dfl k] (2 * k)) (h4 : gi μ 2 0 4 = 0) (h5 : gi μ 2 0 5 = -1) (h12 : gi ν 12 0 12 = 0) (h19 : gi ν 12 0 19 = nI S) (h56 : gi ν 56 0 S = 0) (h57 : gi ν 57 0 S = 0) (h62 : gi ν 62 0 S = 0) (h63 : ∀ k, k < 4 → gi ν 63 0 (4 * S + k) = 0 ∧ gi ν 64 0 (4 * S + k) = 0) (h15 : gi ν 12 0 15 = 0) (h20 : gi ν 12 0 20 = 0) (h31 : gi ν 12 0 31 = nI (130 * S)) (h37 : gi ν 12 0 37 = nI (420 * S)) : RD T S (tkK B L) N 0 (0, -1) X0 μ ν := by
  have lk : ∀ k, k < 4 → lok [] [dfl k] := fun k hk => by
    refine ⟨fun b hb => absurd hb List.not_mem_nil, ?_, fun c hc => ?_⟩
    · rcases (show k = 0 ∨ k = 1 ∨ k = 2 ∨ k = 3 by omega) with rfl | rfl | rfl | rfl <;> decide
    · rw [List.mem_singleton.mp hc]
      unfold cdok
      rcases (show k = 0 ∨ k = 1 ∨ k = 2 ∨ k = 3 by omega) with rfl | rfl | rfl | rfl <;> decide
  exact ⟨[], 8, 130 * S, 420 * S, ⟨⟨hl, hlr, h12, h19⟩, Nat.zero_le _, Nat.zero_le _, h8.1, h8.2.1, h8.2.2.1, h56, h57, h62⟩, fun i hi => absurd hi (Nat.not_lt_zero _), fun f hf => absurd hf (Nat.not_lt_zero _), fun k hk => ⟨lk k hk, ⟨2 * k, (h38 k hk).1, (h38 k hk).2⟩, Or.inr ⟨by rw [(h63 k hk).1, (h63 k hk).2], rfl⟩⟩, ⟨⟨h4, h5, ⟨h15, fun w => absurd rfl w⟩, Or.inl rfl⟩, rfl, ⟨h8.2.2.2.1, fun z hz => absurd hz (Nat.not_lt_zero _)⟩, h20, fun z hz => absurd hz (Nat.not_lt_zero _)⟩, h8.2.2.2.2, by omega, h31, Nat.le_refl _, by omega, h37, Nat.le_refl _, by omega⟩
/-- the new text is taken -/
def FN (c _ _ : Nat) : Prop := c = 2 ∨ c = 7 ∨ c = 11 ∨ c = 5 ∨ c = 0 ∨ c = 1 ∨ c = 23 ∨ c = 9 ∨ c = 4
def FM (c _ j : Nat) : Prop := (c = 12 ∧ (j = 17 ∨ j = 18 ∨ j = 50 ∨ j = 66 ∨ j = 47)) ∨ c = 76 ∨ c = 75 ∨ c = 90
theorem p_takeN {F T S N t : Nat} {u s : Bool} {K : Nat → Tk} {X : (Nat × Nat × Int32) × (Nat → List (Int32 × Int32)) × (Nat → List (Int32 × Int32)) × (Nat → List Br × List Int32)} {Xo : Xt} {μ ν μd νd : Mm} (hF : 1000 ≤ F) (g : Gk K N) (q1 : IB T S Xo u s μ ν) (q3 : HI (xn Xo) μ ν) (fC : fr (FRC (1 - T)) QC μ μd) (fR : fr (FRR (1 - S)) QR ν νd) (rd : RD (1 - T) (1 - S) K N t (0, -1) X μd νd) (h2 : gi νd 12 0 2 = 0) : ∃ μ' ν', fX11_takeDraft F (si (si (si μd 2 0 0 0) 2 0 1 (-1)) 7 0 0 0) = some μ' ∧ gi μ' 2 0 0 = 0 ∧ fX12_read_L134 F νd = some (0, ν') ∧ Inv u s μ' ν' := by
  obtain ⟨a1, a2, a3, a4, a5, a6, a7, a8, a9, a10, a11, a12, a13, a14, a15, a16⟩ := q1
  obtain ⟨Xk, ct, rt, ro, r61⟩ := RD_X (show 1 - S < 2 by omega) g rd rfl
  obtain ⟨nms, P, b, C, ⟨⟨hl, hlr, h12, h19⟩, n4, m5, e0, e1, e2, x56, x57, x62⟩, _, _, _, ⟨⟨d1, d2, d3, d4⟩, _⟩, _⟩ := rd
  have c11 : ∀ j, gi μd 11 0 j = gi μ 11 0 j := fun j => fr_n fC (FTC_o (by omega) (by omega) (by omega) (by omega) (by omega) (by omega) (by omega) (by omega) (by omega))
  have hT1 : 1 - T < 2 := by omega
  -- the class
  unfold fX11_takeDraft
  have y3 : gi (si (si (si μd 2 0 0 0) 2 0 1 (-1)) 7 0 0 0) 11 0 3 = nI (1 - T) := by rw [gi_ne (by omega), gi_ne (by omega), gi_ne (by omega), c11, a5]
  have y2 : gi (si (si (si μd 2 0 0 0) 2 0 1 (-1)) 7 0 0 0) 11 0 2 = nI T := by rw [gi_ne (by omega), gi_ne (by omega), gi_ne (by omega), c11, a4]
  rw [y3, y2, gi_ne (by omega), gi_eq, tx_nI hT1]
  generalize hμf : si (si (si (si (si μd 2 0 0 0) 2 0 1 (-1)) 7 0 0 0) 11 0 2 (nI (1 - T))) 11 0 3 (nI T) = μf
  have ff : fr FN (fun _ => False) μd μf := by
    rw [← hμf]
    exact fr_tr (fr_tr (fr_tr (fr_tr (fr_si (Or.inl rfl)) (fr_si (Or.inl rfl))) (fr_si (Or.inr (Or.inl rfl)))) (fr_si (Or.inr (Or.inr (Or.inl rfl))))) (fr_si (Or.inr (Or.inr (Or.inl rfl))))
  have f112 : gi μf 11 0 2 = nI (1 - T) := by rw [← hμf, gi_ne (by omega), gi_eq]
  have f113 : gi μf 11 0 3 = nI T := by rw [← hμf, gi_eq]
  have f20 : gi μf 2 0 0 = 0 := by rw [← hμf, gi_ne (by omega), gi_ne (by omega), gi_ne (by omega), gi_ne (by omega), gi_eq]
  have f21 : gi μf 2 0 1 = -1 := by rw [← hμf, gi_ne (by omega), gi_ne (by omega), gi_ne (by omega), gi_eq]
  have f70 : gi μf 7 0 0 = 0 := by rw [← hμf, gi_ne (by omega), gi_ne (by omega), gi_eq]
  have f1110 : gi μf 11 0 10 = gi μ 11 0 10 := by rw [← hμf, gi_ne (by omega), gi_ne (by omega), gi_ne (by omega), gi_ne (by omega), gi_ne (by omega), c11]
  have f1111 : gi μf 11 0 11 = gi μ 11 0 11 := by rw [← hμf, gi_ne (by omega), gi_ne (by omega), gi_ne (by omega), gi_ne (by omega), gi_ne (by omega), c11]
  have rof : rowsOk (1 - T) X.1.1 X.2.1 μf := fun i hi => ⟨RwC_fr ff (fun c j hc => by unfold FN; omega) (ro i hi).1, (ro i hi).2⟩
  obtain ⟨μg, g1, g2, g3⟩ := p_begC (F := F) (T := 1 - T) (qs := X.2.1) hF n4 ((fr_n ff (by unfold FN; omega)).trans e0) rof
  obtain ⟨μh, k1, k2, k3, k4⟩ := p_clrM (F := F) (μ := μg) hF
  rw [g1, bd1_s, k1, bd1_s]
  have fgh : fr (fun c i j => (c = 5 ∧ i < 4) ∨ (c = 0 ∧ (j = 1 ∨ j = 2)) ∨ (c = 1 ∧ j = 0) ∨ c = 23) (fun _ => False) μf μh := fr_tr (fr_of g2 (fun c i j q => by omega) (fun c q => q)) (fr_of k2 (fun c i j q => by omega) (fun c q => q))
  have hi : ∀ (μi : Mm), fr (fun c i j => (c = 9 ∧ j = 0) ∨ (c = 4 ∧ j = 1)) (fun _ => False) μh μi → gi μi 9 0 0 = 0 → SI s (mkX X) μi → ∃ μ' ν', some μi = some μ' ∧ gi μ' 2 0 0 = 0 ∧ fX12_read_L134 F νd = some (0, ν') ∧ Inv u s μ' ν' := fun μi fi e9 si' => by
    have ffi : fr (fun c i j => (c = 5 ∧ i < 4) ∨ (c = 0 ∧ (j = 1 ∨ j = 2)) ∨ (c = 1 ∧ j = 0) ∨ c = 23 ∨ (c = 9 ∧ j = 0) ∨ (c = 4 ∧ j = 1)) (fun _ => False) μf μi := fr_tr (fr_of fgh (fun c i j q => by omega) (fun c q => q)) (fr_of fi (fun c i j q => by omega) (fun c q => q))
    have fdi : fr FN (fun _ => False) μd μi := fr_tr ff (fr_of ffi (fun c i j q => by unfold FN; omega) (fun c q => q))
    have nd : ∀ {c i j}, ¬ FN c i j → gi μi c i j = gi μd c i j := fun w => fr_n fdi w
    have nf : ∀ {c i j}, ¬ ((c = 5 ∧ i < 4) ∨ (c = 0 ∧ (j = 1 ∨ j = 2)) ∨ (c = 1 ∧ j = 0) ∨ c = 23 ∨ (c = 9 ∧ j = 0) ∨ (c = 4 ∧ j = 1)) → gi μi c i j = gi μf c i j := fun w => fr_n ffi w
    -- the reference
    unfold fX12_read_L134 fX12_read_L164
    rw [hlr.1, if_pos (by decide), d3.1, if_pos (show ((0 : Int32), (-1 : Int32)).1 ≤ 0 by decide), gi_ne (by omega), hlr.1, if_pos (by decide), gi_ne (by omega), d3.1, if_pos (show ((0 : Int32), (-1 : Int32)).1 ≤ 0 by decide), gi_ne (by omega), h19]
    generalize hνe : si (si νd 12 0 17 (-1)) 12 0 18 (nI (1 - S)) = νe
    have fe : fr FM (fun _ => False) νd νe := by
      rw [← hνe]
      exact fr_tr (fr_si (Or.inl ⟨rfl, by omega⟩)) (fr_si (Or.inl ⟨rfl, by omega⟩))
    have e17 : gi νe 12 0 17 = -1 := by rw [← hνe, gi_ne (by omega), gi_eq]
    have e18 : gi νe 12 0 18 = nI (1 - S) := by rw [← hνe, gi_eq]
    obtain ⟨νf, l1, l2, l3⟩ := p_begR (F := F) (S := 1 - S) (n := X.1.1) (qs := X.2.1) hF (by omega) n4 e18 ((fr_n fe (by unfold FM; omega)).trans x56) ro (fun i hi => (fr_n fe (by unfold FM; omega)).trans (r61 i hi))
    rw [l1, bd1_s, p_keeps hF, bd1_s]
    generalize hνg : bw νf 75 0 0 14 (gi νf 76 0) = νg
    have fg : fr (fun c _ _ => c = 75) (fun _ => False) νf νg := by
      rw [← hνg]
      exact ⟨fun c i j q => by rw [gi_bw, if_neg (by omega)], fun _ _ _ _ => rfl⟩
    have e75 : ∀ z, z < 14 → gi νg 75 0 z = gi νf 76 0 z := fun z hz => by rw [← hνg, gi_bw, if_pos (by omega)]
    obtain ⟨νi, m1, m2, m3, _⟩ := p_219 (F := F) 3 F 0 (si (si νg 12 0 50 0) 12 0 66 0) rfl (by omega)
    have m1' : fX12_read_L219 F F 0 (si (si νg 12 0 50 0) 12 0 66 0) = some (0, νi) := m1
    rw [m1']
    have fgi : fr (fun c _ j => (c = 12 ∧ (j = 50 ∨ j = 66)) ∨ c = 90) (fun _ => False) νg νi := fr_tr (fr_tr (fr_si (Or.inl ⟨rfl, by omega⟩)) (fr_si (Or.inl ⟨rfl, by omega⟩))) (fr_of m2 (fun c i j q => Or.inr q) (fun c q => q))
    have fdiR : fr FM (fun _ => False) νd νi := fr_tr fe (fr_tr (fr_of l2 (fun c i j q => by unfold FM; omega) (fun c q => q)) (fr_tr (fr_of fg (fun c i j q => by unfold FM; omega) (fun c q => q)) (fr_of fgi (fun c i j q => by unfold FM; omega) (fun c q => q))))
    have nR : ∀ {c j}, ¬ FM c 0 j → gi νi c 0 j = gi νd c 0 j := fun w => fr_n fdiR w
    have nei : ∀ j, (j = 17 ∨ j = 18) → gi νi 12 0 j = gi νe 12 0 j := fun j hj => (fr_n fgi (by omega)).trans ((fr_n fg (by omega)).trans (fr_n l2 (by omega)))
    have r_ : ∀ c j, c = 77 ∨ c = 78 → gi νi c 0 j = gi ν c 0 j := fun c j hc => (nR (by unfold FM; omega)).trans (fr_n fR (FTR_o (by omega) (by omega)))
    have c_ : ∀ c j, (c = 46 ∨ c = 47) → gi μi c 0 j = gi μ c 0 j := fun c j hc => (nd (by unfold FN; omega)).trans (fr_n fC (FTC_o (by omega) (by omega) (by omega) (by omega) (by omega) (by omega) (by omega) (by omega) (by omega)))
    have ct' : CT μi (1 - T) (mkX X) := CT_keep Xk (fun j => nd (by unfold FN; omega)) (fun c f j hc hf => nd (by unfold FN; omega)) (fun j => nd (by unfold FN; omega)) (fun j => nd (by unfold FN; omega)) ct
    have rt' : RT νi (1 - S) (mkX X) := RT_keep Xk (fun c hc => nR (by unfold FM; omega)) (fun f hf => nR (by unfold FM; omega)) (fun c j hc g1 g2 => nR (by unfold FM; omega)) (fun c k hc hk => nR (by unfold FM; omega)) (fun c j g1 g2 g3 g4 => nR (by unfold FM; omega)) (fun c j g1 g2 g3 => nR (by unfold FM; omega)) rt
    have hiz : ∀ i, i < 4 → sqC μi i = (e0S X.1.1 X.2.1).1 i := fun i hi => by
      rw [← g3.1 i hi]
      have n5 : ∀ j, gi μi 5 i j = gi μg 5 i j := fun j => (fr_n fi (by omega)).trans (fr_n k2 (by omega))
      unfold sqC tgC
      rw [n5, n5, n5, n5]
    obtain ⟨_, nx, _, _, b2, _, b4, _⟩ := q3
    refine ⟨μi, νi, rfl, (nf (by omega)).trans f20, rfl, 1 - T, 1 - S, mkX X, e0S X.1.1 X.2.1, ⟨hT1, by omega, Xk, (nf (by omega)).trans f112, ?_, (nei 18 (by omega)).trans e18, ct', rt', fun z hz => ?_, ⟨0, by omega, (nf (by omega)).trans f70, (nR (by unfold FM; omega)).trans h2, fun j hj => absurd hj (Nat.not_lt_zero _)⟩, ((nf (by omega)).trans f21).trans ((nei 17 (by omega)).trans e17).symm, ⟨0, by omega, e9, ?_, fun j hj => absurd hj (Nat.not_lt_zero _)⟩, fun t ht => ⟨(r_ _ _ (by omega)).trans (a13 t ht).1, (r_ _ _ (by omega)).trans (a13 t ht).2⟩, fun k hk => (fr_m fdiR (fun w => w)).trans ((fr_m fR (by unfold QR; omega)).trans (a14 k hk)), UI_ag ((nf (by omega)).trans f1111) (fun j => ⟨c_ _ _ (by omega), c_ _ _ (by omega)⟩) a15, si'⟩, ⟨⟨hiz, ?_, ?_⟩, RW_c n4 (fun z hz => (fr_n fgi (by omega)).trans (e75 z hz)) l3, e0S_G ro⟩, 0, nx, fun _ => e0S 0 (fun _ => []), by omega, b2, (fr_n fi (by omega)).trans k3, ?_, ?_, fun i hi => absurd hi (Nat.not_lt_zero _)⟩
    · rw [nf (by omega), f113]
      congr 1
      omega
    · have z23 : gi μi 23 0 z = 0 := (fr_n fi (by omega)).trans (k4 z hz)
      exact ⟨by rw [z23, m3 z (Nat.zero_le _) hz], Or.inl z23, fun w => by rw [z23] at w; exact absurd w (by decide)⟩
    · rw [fr_n m2 (by omega), gi_eq]
      rfl
    · exact ((fr_n fi (by omega)).trans (fr_n k2 (by omega))).trans g3.2.1
    · exact ((fr_n fi (by omega)).trans (fr_n k2 (by omega))).trans g3.2.2
    · rw [nf (by omega), ← b4, ← hμf, gi_ne (by omega), gi_ne (by omega), gi_ne (by omega), gi_ne (by omega), gi_ne (by omega)]
      exact fr_n fC (FTC_o (by omega) (by omega) (by omega) (by omega) (by omega) (by omega) (by omega) (by omega) (by omega))
    · rw [fr_n m2 (by omega), gi_ne (by omega), gi_eq]
      rfl
  have e10 : gi (si μh 9 0 0 0) 11 0 10 = gi μ 11 0 10 := by
    rw [gi_ne (by omega), fr_n fgh (by omega), f1110]
  have c4_ : ∀ c j, (c = 4 ∨ c = 27 ∨ c = 28) → gi (si μh 9 0 0 0) c 0 j = gi μ c 0 j := fun c j hc => by
    rw [gi_ne (by omega), fr_n fgh (by omega), ← hμf, gi_ne (by omega), gi_ne (by omega), gi_ne (by omega), gi_ne (by omega), gi_ne (by omega)]
    exact fr_n fC (FTC_o (by omega) (by omega) (by omega) (by omega) (by omega) (by omega) (by omega) (by omega) (by omega))
  rw [e10]
  rcases a16 with ⟨b1, b2⟩ | ⟨b1, b2, b3⟩
  · rw [if_pos b2]
    exact hi _ (fr_si (Or.inl ⟨rfl, rfl⟩)) gi_eq (Or.inl ⟨b1, e10.trans b2⟩)
  · rw [if_neg (show ¬ gi μ 11 0 10 = 0 by rw [b2]; decide)]
    unfold fX4_startAnew
    rw [bd1_s]
    refine hi _ (fr_tr (fr_si (Or.inl ⟨rfl, rfl⟩)) (fr_si (Or.inr ⟨rfl, rfl⟩))) ((gi_ne (by omega)).trans gi_eq) (Or.inr ⟨b1, (gi_ne (by omega)).trans (e10.trans b2), ?_, Or.inl gi_eq⟩)
    obtain ⟨⟨l, l1, l2⟩, _⟩ := b3
    obtain ⟨s1, s2, s3, s4⟩ := l1
    refine ⟨l, ⟨(gi_ne (by omega)).trans ((c4_ 4 0 (by omega)).trans s1), s2, fun i hi => (gi_ne (by omega)).trans ((c4_ 27 i (by omega)).trans (s3 i hi)), fun x hx w => s4 x hx (fun z => w ((gi_ne (by omega)).trans ((c4_ 28 x (by omega)).trans z)))⟩, l2⟩
theorem o_read {F : Nat} (hF : 100000 ≤ F) : st2 Inv (fX11_read F) (fX12_read F) := fun u s μ ν q => by
  obtain ⟨T, S, X, e, q1, q2, q3⟩ := id q
  obtain ⟨a1, a2, a3, a4, a5, a6, a7, a8, a9, a10, a11, a12, a13, a14, a15, a16⟩ := id q1
  obtain ⟨L, hL, t1, t2, t3⟩ := a10
  have hT1 : 1 - T < 2 := by omega
  have hS1 : 1 - S < 2 := by omega
  obtain ⟨μc, N, b1, b2, b3, b4, b5, b6, b7, b8⟩ := p_beginC (F := F) (T := 1 - T) (L := L) (B := fun j => gi ν 48 0 j) (μ := μ) hF hT1 hL (fun j hj => (byte_b (t3 j hj).2).2) t1 (fun j hj => (t3 j hj).1)
  obtain ⟨νc, c1, c2, c3, c4, c5, c6, c7, c8, c9, c10, c11, c12, c13, c14⟩ := p_beginR (F := F) (S := S) (L := L) (N := N) (B := fun j => gi ν 48 0 j) (ν := ν) hF a2 hL (fun j hj => (t3 j hj).2) (fun j hj => rfl) a14 t2 a6 b3
  have rd0 : RD (1 - T) (1 - S) (tkK (fun j => gi ν 48 0 j) L) N 0 (0, -1) X0 μc νc := RD_0 b4 c3 b5 b6 b7 b8 c4 c5 c6 c7 c8 c9 c10 c11 c12 c13
  have g : Gk (tkK (fun j => gi ν 48 0 j) L) N := ⟨b3, fun t => tkK_34, fun t h => tkK_v h⟩
  obtain ⟨μd, νd, d1, d2, d3, d4, d5⟩ := p_loop (F := F) (by omega) hT1 hS1 g F F 0 0 (0, -1) X0 μc νc rd0 (by omega) (by omega) (Nat.le_refl _)
  have d1' : fX2_readInto_L41 F F 0 μc = fX2_readInto_L84 F μd := d1
  have fC : fr (FRC (1 - T)) QC μ μd := fr_tr b2 (fr_of d3 (fun c i j q => Or.inl q) (fun c q => by
    rcases q with q | q
    · exact Or.inl q
    · exact Or.inr (Or.inr q)))
  have fR : fr (FRR (1 - S)) QR ν νd := fr_tr c2 (fr_of d4 (fun c i j q => Or.inl q) (fun c q => Or.inr q))
  have z2 : gi νd 12 0 2 = 0 := (fr_n d4 (fun w => by
    rcases w with w | w | w | w | (w | w | w) | w | w | w
    · have := w.2
      omega
    · omega
    · omega
    · omega
    · omega
    · omega
    · omega
    · omega
    · omega
    · omega)).trans c14
  unfold fX11_read
  rw [a5, tx_nI hT1, b1, d1', c1, d2]
  rcases d5 with ⟨er, x1, x2⟩ | ⟨t, D, X', rd⟩
  · -- a fault
    have r1 : fX2_readInto_L84 F μd = some μd := by
      unfold fX2_readInto_L84
      rw [if_neg (dead_n x1)]
    have r2 : fX12_read_L134 F νd = some (er.1, si νd 12 0 17 er.2) := by
      unfold fX12_read_L134 fX12_read_L164
      rw [if_neg (deadR x2).2.1, gi_ne (by omega), if_neg (deadR x2).2.1, x2.1, x2.2.1]
    rw [r1, bd1_s, gi_ne (by omega), if_neg (dead_n x1), x1.1, r2]
    refine ⟨er.1, si μd 7 0 0 0, si νd 12 0 17 er.2, rfl, rfl, Inv_keep q1 q2 q3 (fr_tr fC (fr_si (Or.inr (Or.inr (Or.inl rfl))))) (fr_tr fR (fr_si (Or.inr (Or.inr ⟨rfl, by omega⟩)))) gi_eq ((gi_ne (by omega)).trans z2) ?_⟩
    rw [gi_ne (by omega), x1.2.1, gi_eq]
  · have rdd := rd
    obtain ⟨nms, P, b, C, ⟨⟨hl, hlr, h12, h19⟩, _⟩, _, _, _, ⟨⟨e1, e2, e3, e4⟩, _⟩, _⟩ := rd
    have r1 : fX2_readInto_L84 F μd = some (si (si μd 2 0 0 D.1) 2 0 1 D.2) := by
      unfold fX2_readInto_L84
      rw [if_pos hl.1, e1, gi_ne (by omega), e2]
    rw [r1, bd1_s]
    rcases e4 with rfl | e4
    · -- all is well
      obtain ⟨μ', ν', y1, y2, y3, y4⟩ := p_takeN (F := F) (by omega) g q1 q3 fC fR rdd z2
      have y0 : gi (si (si (si μd 2 0 0 ((0, -1) : Int32 × Int32).1) 2 0 1 ((0, -1) : Int32 × Int32).2) 7 0 0 0) 2 0 0 = 0 := by
        rw [gi_ne (by omega), gi_ne (by omega), gi_eq]
      rw [if_pos y0, y3]
      have y1' : fX11_takeDraft F (si (si (si μd 2 0 0 ((0, -1) : Int32 × Int32).1) 2 0 1 ((0, -1) : Int32 × Int32).2) 7 0 0 0) = some μ' := y1
      rw [y1', bd1_s, y2]
      exact ⟨0, μ', ν', rfl, rfl, y4⟩
    · -- a doubt
      have n0 : ¬ D.1 = 0 := fun w => by
        rw [w, z0] at e4
        omega
      have r0 : gi (si (si (si μd 2 0 0 D.1) 2 0 1 D.2) 7 0 0 0) 2 0 0 = D.1 := by
        rw [gi_ne (by omega), gi_ne (by omega), gi_eq]
      have le0 : ¬ D.1 ≤ 0 := fun w => by
        rw [i_le, z0] at w
        omega
      have r2 : fX12_read_L134 F νd = some (D.1, si νd 12 0 17 D.2) := by
        unfold fX12_read_L134 fX12_read_L164
        rw [hlr.1, if_pos (by decide), e3.1, if_neg le0, e3.2 n0, gi_ne (by omega), hlr.1, if_pos (by decide), gi_ne (by omega), e3.1, if_neg le0]
      rw [if_neg (by rw [r0]; exact n0), r0, r2]
      refine ⟨D.1, _, _, rfl, rfl, Inv_keep q1 q2 q3 (fr_tr fC (fr_tr (fr_tr (fr_si (Or.inr (Or.inl rfl))) (fr_si (Or.inr (Or.inl rfl)))) (fr_si (Or.inr (Or.inr (Or.inl rfl)))))) (fr_tr fR (fr_si (Or.inr (Or.inr ⟨rfl, by omega⟩)))) gi_eq ((gi_ne (by omega)).trans z2) ?_⟩
      rw [gi_ne (by omega), gi_eq, gi_eq]
