def Steps (F : Nat) (Iv : Bool → Bool → Mm → Mm → Prop) : Prop :=
  nzI Iv ∧ (∀ a b c d e : Int32, st2 Iv (fX11_feed F a b c d e) (fX12_feed F a b c d e)) ∧
  (∀ a : Int32, st2 Iv (fX11_back F a) (fX12_back F a)) ∧
  (st2 Iv (fX11_read F) (fX12_read F)) ∧
  (st2 Iv (fX11_place F) (fX12_place F)) ∧
  (∀ a b : Int32, st2 Iv (fX11_square F a b) (fX12_square F a b)) ∧
  (∀ a b : Int32, st2 Iv (fX11_figure F a b) (fX12_figure F a b)) ∧
  (∀ a b : Int32, st2 Iv (fX11_tires F a b) (fX12_tires F a b)) ∧
  (∀ a b c : Int32, st2 Iv (fX11_after F a b c) (fX12_after F a b c)) ∧
  (∀ a b : Int32, st2 Iv (fX11_call F a b) (fX12_call F a b)) ∧
  (∀ a b c : Int32, st2 Iv (fX11_move F a b c) (fX12_move F a b c)) ∧
  (∀ a : Int32, st2 Iv (fX11_let F a) (fX12_let F a)) ∧
  (∀ a : Int32, st2 Iv (fX11_minutes F a) (fX12_minutes F a)) ∧
  (st2 Iv (fX11_undo F) (fX12_undo F)) ∧
  (∀ a : Int32, mkU Iv (fX11_least F a) (fX11_least_n F a) (fX11_least_a F a) (fX12_least F a)) ∧
  (∀ a : Int32, mkU Iv (fX11_ways F a) (fX11_ways_n F a) (fX11_ways_a F a) (fX12_ways F a)) ∧
  (∀ a b : Int32, mkU Iv (fX11_step F a b) (fX11_step_n F a b) (fX11_step_a F a b) (fX12_step F a b)) ∧
  (∀ a b : Int32, mkS Iv (fX11_plan F a b) (fX11_plan_n F a b) (fX11_plan_a F a b) (fX12_plan F a b)) ∧
  (∀ a b c : Int32, mkS Iv (fX11_bring F a b c) (fX11_bring_n F a b c) (fX11_bring_a F a b c) (fX12_bring F a b c)) ∧
  (∀ a : Int32, mkS Iv (fX11_reach F a) (fX11_reach_n F a) (fX11_reach_a F a) (fX12_reach F a)) ∧
  (∀ a b : Int32, st2 Iv (fX11_alike F a b) (fX12_alike F a b)) ∧
  (∀ a b : Int32, st2 Iv (fX11_closed F a b) (fX12_closed F a b)) ∧
  (∀ a b : Int32, st2 Iv (fX11_colours F a b) (fX12_colours F a b)) ∧
  (∀ a b : Int32, st2 Iv (fX11_joined F a b) (fX12_joined F a b)) ∧
  (∀ a : Int32, st2 Iv (fX11_order F a) (fX12_order F a)) ∧
  (∀ a b : Int32, st2 Iv (fX11_round F a b) (fX12_round F a b)) ∧
  (∀ a b c d : Int32, st2 Iv (fX11_power F a b c d) (fX12_power F a b c d)) ∧
  (∀ a b : Int32, st2 Iv (fX11_stays F a b) (fX12_stays F a b)) ∧
  (∀ a b : Int32, st2 Iv (fX11_mind F a b) (fX12_mind F a b)) ∧
  (∀ a : Int32, st2 Iv (fX11_reverse F a) (fX12_reverse F a)) ∧
  (∀ a b : Int32, st2 Iv (fX11_hands F a b) (fX12_hands F a b)) ∧
  (∀ a b c : Int32, st2 Iv (fX11_then F a b c) (fX12_then F a b c)) ∧
  (∀ a b c : Int32, st2 Iv (fX11_year F a b c) (fX12_year F a b c)) ∧
  (∀ a b c : Int32, st2 Iv (fX11_tell F a b c) (fX12_tell F a b c)) ∧
  (st2 Iv (fX11_forget F) (fX12_forget F)) ∧
  (∀ a b c d : Int32, st2 Iv (fX11_rows F a b c d) (fX12_rows F a b c d)) ∧
  (∀ a b c : Int32, st2 Iv (fX11_listen F a b c) (fX12_listen F a b c)) ∧
  (∀ a : Int32, st2 Iv (fX11_hold F a) (fX12_hold F a)) ∧
  (∀ a : Int32, st2 Iv (fX11_restore F a) (fX12_restore F a)) ∧
  (∀ a : Int32, st2 Iv (fX11_count F a) (fX12_count F a))
theorem k_feed {z : Zx} {B : Bx} {b L j F : Nat} {xs : Nat → Int32} {Q : State → Prop} {Iv : Bool → Bool → Mm → Mm → Prop} (hS : Steps F Iv) (hg : Og z B code 4 "RopeDanceLaw" (some .boolean) 13 TL) (hX : va_X b L xs (zs z) (zs z).heap) (hb : b < (zs z).heap.size) (hj : j + 6 ≤ L) (hL : L ≤ 3072) {σ : Nat} {v : Bool} {μ ν : Mm} (hs : σ < 5) (hv : v = vσ σ ∨ σ = 0) (hI : Iv (uσ σ) (sσ σ) μ ν) (IH : ∀ (σ : Nat) (v : Bool) (μ ν : Mm), σ < 5 → (v = vσ σ ∨ σ = 0) → Iv (uσ σ) (sσ σ) μ ν → Gq z (kC B σ v ν) 4 Q (Cs σ) 1457 μ (lvL B v b (Int32.ofNat j)) []) : Gq z (kC B σ v ν) 4 Q (Cs σ) 204 μ (lvL B v b (Int32.ofNat j)) [] := by
  obtain ⟨r, μ', ν', f1, f2, hI'⟩ := hS.2.1 (xs (j + 1)) (xs (j + 2)) (xs (j + 3)) (xs (j + 4)) (xs (j + 5)) _ _ _ _ hI
  exact w_feed hg hX hb hj hL hs hv (Cs_le σ hs) f1 f2 (nz_of hS.1 hs hI') (IH _ _ _ _ hs hv hI')
theorem k_back {z : Zx} {B : Bx} {b L j F : Nat} {xs : Nat → Int32} {Q : State → Prop} {Iv : Bool → Bool → Mm → Mm → Prop} (hS : Steps F Iv) (hg : Og z B code 4 "RopeDanceLaw" (some .boolean) 13 TL) (hX : va_X b L xs (zs z) (zs z).heap) (hb : b < (zs z).heap.size) (hj : j + 6 ≤ L) (hL : L ≤ 3072) {σ : Nat} {v : Bool} {μ ν : Mm} (hs : σ < 5) (hv : v = vσ σ ∨ σ = 0) (hI : Iv (uσ σ) (sσ σ) μ ν) (IH : ∀ (σ : Nat) (v : Bool) (μ ν : Mm), σ < 5 → (v = vσ σ ∨ σ = 0) → Iv (uσ σ) (sσ σ) μ ν → Gq z (kC B σ v ν) 4 Q (Cs σ) 1457 μ (lvL B v b (Int32.ofNat j)) []) : Gq z (kC B σ v ν) 4 Q (Cs σ) 267 μ (lvL B v b (Int32.ofNat j)) [] := by
  obtain ⟨r, μ', ν', f1, f2, hI'⟩ := hS.2.2.1 (xs (j + 1)) _ _ _ _ hI
  exact w_back hg hX hb hj hL hs hv (Cs_le σ hs) f1 f2 (nz_of hS.1 hs hI') (IH _ _ _ _ hs hv hI')
theorem k_read {z : Zx} {B : Bx} {b L j F : Nat} {xs : Nat → Int32} {Q : State → Prop} {Iv : Bool → Bool → Mm → Mm → Prop} (hS : Steps F Iv) (hg : Og z B code 4 "RopeDanceLaw" (some .boolean) 13 TL) (hX : va_X b L xs (zs z) (zs z).heap) (hb : b < (zs z).heap.size) (hj : j + 6 ≤ L) (hL : L ≤ 3072) {σ : Nat} {v : Bool} {μ ν : Mm} (hs : σ < 5) (hv : v = vσ σ ∨ σ = 0) (hI : Iv (uσ σ) (sσ σ) μ ν) (IH : ∀ (σ : Nat) (v : Bool) (μ ν : Mm), σ < 5 → (v = vσ σ ∨ σ = 0) → Iv (uσ σ) (sσ σ) μ ν → Gq z (kC B σ v ν) 4 Q (Cs σ) 1457 μ (lvL B v b (Int32.ofNat j)) []) : Gq z (kC B σ v ν) 4 Q (Cs σ) 290 μ (lvL B v b (Int32.ofNat j)) [] := by
  obtain ⟨r, μ', ν', f1, f2, hI'⟩ := hS.2.2.2.1 _ _ _ _ hI
  exact w_read hg hX hb hj hL hs hv (Cs_le σ hs) f1 f2 (nz_of hS.1 hs hI') (IH _ _ _ _ hs hv hI')
theorem k_place {z : Zx} {B : Bx} {b L j F : Nat} {xs : Nat → Int32} {Q : State → Prop} {Iv : Bool → Bool → Mm → Mm → Prop} (hS : Steps F Iv) (hg : Og z B code 4 "RopeDanceLaw" (some .boolean) 13 TL) (hX : va_X b L xs (zs z) (zs z).heap) (hb : b < (zs z).heap.size) (hj : j + 6 ≤ L) (hL : L ≤ 3072) {σ : Nat} {v : Bool} {μ ν : Mm} (hs : σ < 5) (hv : v = vσ σ ∨ σ = 0) (hI : Iv (uσ σ) (sσ σ) μ ν) (IH : ∀ (σ : Nat) (v : Bool) (μ ν : Mm), σ < 5 → (v = vσ σ ∨ σ = 0) → Iv (uσ σ) (sσ σ) μ ν → Gq z (kC B σ v ν) 4 Q (Cs σ) 1457 μ (lvL B v b (Int32.ofNat j)) []) : Gq z (kC B σ v ν) 4 Q (Cs σ) 303 μ (lvL B v b (Int32.ofNat j)) [] := by
  obtain ⟨r, μ', ν', f1, f2, hI'⟩ := hS.2.2.2.2.1 _ _ _ _ hI
  exact w_place hg hX hb hj hL hs hv (Cs_le σ hs) f1 f2 (nz_of hS.1 hs hI') (IH _ _ _ _ hs hv hI')
theorem k_square {z : Zx} {B : Bx} {b L j F : Nat} {xs : Nat → Int32} {Q : State → Prop} {Iv : Bool → Bool → Mm → Mm → Prop} (hS : Steps F Iv) (hg : Og z B code 4 "RopeDanceLaw" (some .boolean) 13 TL) (hX : va_X b L xs (zs z) (zs z).heap) (hb : b < (zs z).heap.size) (hj : j + 6 ≤ L) (hL : L ≤ 3072) {σ : Nat} {v : Bool} {μ ν : Mm} (hs : σ < 5) (hv : v = vσ σ ∨ σ = 0) (hI : Iv (uσ σ) (sσ σ) μ ν) (IH : ∀ (σ : Nat) (v : Bool) (μ ν : Mm), σ < 5 → (v = vσ σ ∨ σ = 0) → Iv (uσ σ) (sσ σ) μ ν → Gq z (kC B σ v ν) 4 Q (Cs σ) 1457 μ (lvL B v b (Int32.ofNat j)) []) : Gq z (kC B σ v ν) 4 Q (Cs σ) 316 μ (lvL B v b (Int32.ofNat j)) [] := by
  obtain ⟨r, μ', ν', f1, f2, hI'⟩ := hS.2.2.2.2.2.1 (xs (j + 1)) (xs (j + 2)) _ _ _ _ hI
  exact w_square hg hX hb hj hL hs hv (Cs_le σ hs) f1 f2 (nz_of hS.1 hs hI') (IH _ _ _ _ hs hv hI')
theorem k_figure {z : Zx} {B : Bx} {b L j F : Nat} {xs : Nat → Int32} {Q : State → Prop} {Iv : Bool → Bool → Mm → Mm → Prop} (hS : Steps F Iv) (hg : Og z B code 4 "RopeDanceLaw" (some .boolean) 13 TL) (hX : va_X b L xs (zs z) (zs z).heap) (hb : b < (zs z).heap.size) (hj : j + 6 ≤ L) (hL : L ≤ 3072) {σ : Nat} {v : Bool} {μ ν : Mm} (hs : σ < 5) (hv : v = vσ σ ∨ σ = 0) (hI : Iv (uσ σ) (sσ σ) μ ν) (IH : ∀ (σ : Nat) (v : Bool) (μ ν : Mm), σ < 5 → (v = vσ σ ∨ σ = 0) → Iv (uσ σ) (sσ σ) μ ν → Gq z (kC B σ v ν) 4 Q (Cs σ) 1457 μ (lvL B v b (Int32.ofNat j)) []) : Gq z (kC B σ v ν) 4 Q (Cs σ) 349 μ (lvL B v b (Int32.ofNat j)) [] := by
  obtain ⟨r, μ', ν', f1, f2, hI'⟩ := hS.2.2.2.2.2.2.1 (xs (j + 1)) (xs (j + 2)) _ _ _ _ hI
  exact w_figure hg hX hb hj hL hs hv (Cs_le σ hs) f1 f2 (nz_of hS.1 hs hI') (IH _ _ _ _ hs hv hI')
theorem k_tires {z : Zx} {B : Bx} {b L j F : Nat} {xs : Nat → Int32} {Q : State → Prop} {Iv : Bool → Bool → Mm → Mm → Prop} (hS : Steps F Iv) (hg : Og z B code 4 "RopeDanceLaw" (some .boolean) 13 TL) (hX : va_X b L xs (zs z) (zs z).heap) (hb : b < (zs z).heap.size) (hj : j + 6 ≤ L) (hL : L ≤ 3072) {σ : Nat} {v : Bool} {μ ν : Mm} (hs : σ < 5) (hv : v = vσ σ ∨ σ = 0) (hI : Iv (uσ σ) (sσ σ) μ ν) (IH : ∀ (σ : Nat) (v : Bool) (μ ν : Mm), σ < 5 → (v = vσ σ ∨ σ = 0) → Iv (uσ σ) (sσ σ) μ ν → Gq z (kC B σ v ν) 4 Q (Cs σ) 1457 μ (lvL B v b (Int32.ofNat j)) []) : Gq z (kC B σ v ν) 4 Q (Cs σ) 382 μ (lvL B v b (Int32.ofNat j)) [] := by
  obtain ⟨r, μ', ν', f1, f2, hI'⟩ := hS.2.2.2.2.2.2.2.1 (xs (j + 1)) (xs (j + 2)) _ _ _ _ hI
  exact w_tires hg hX hb hj hL hs hv (Cs_le σ hs) f1 f2 (nz_of hS.1 hs hI') (IH _ _ _ _ hs hv hI')
theorem k_after {z : Zx} {B : Bx} {b L j F : Nat} {xs : Nat → Int32} {Q : State → Prop} {Iv : Bool → Bool → Mm → Mm → Prop} (hS : Steps F Iv) (hg : Og z B code 4 "RopeDanceLaw" (some .boolean) 13 TL) (hX : va_X b L xs (zs z) (zs z).heap) (hb : b < (zs z).heap.size) (hj : j + 6 ≤ L) (hL : L ≤ 3072) {σ : Nat} {v : Bool} {μ ν : Mm} (hs : σ < 5) (hv : v = vσ σ ∨ σ = 0) (hI : Iv (uσ σ) (sσ σ) μ ν) (IH : ∀ (σ : Nat) (v : Bool) (μ ν : Mm), σ < 5 → (v = vσ σ ∨ σ = 0) → Iv (uσ σ) (sσ σ) μ ν → Gq z (kC B σ v ν) 4 Q (Cs σ) 1457 μ (lvL B v b (Int32.ofNat j)) []) : Gq z (kC B σ v ν) 4 Q (Cs σ) 415 μ (lvL B v b (Int32.ofNat j)) [] := by
  obtain ⟨r, μ', ν', f1, f2, hI'⟩ := hS.2.2.2.2.2.2.2.2.1 (xs (j + 1)) (xs (j + 2)) (xs (j + 3)) _ _ _ _ hI
  exact w_after hg hX hb hj hL hs hv (Cs_le σ hs) f1 f2 (nz_of hS.1 hs hI') (IH _ _ _ _ hs hv hI')
theorem k_call {z : Zx} {B : Bx} {b L j F : Nat} {xs : Nat → Int32} {Q : State → Prop} {Iv : Bool → Bool → Mm → Mm → Prop} (hS : Steps F Iv) (hg : Og z B code 4 "RopeDanceLaw" (some .boolean) 13 TL) (hX : va_X b L xs (zs z) (zs z).heap) (hb : b < (zs z).heap.size) (hj : j + 6 ≤ L) (hL : L ≤ 3072) {σ : Nat} {v : Bool} {μ ν : Mm} (hs : σ < 5) (hv : v = vσ σ ∨ σ = 0) (hI : Iv (uσ σ) (sσ σ) μ ν) (IH : ∀ (σ : Nat) (v : Bool) (μ ν : Mm), σ < 5 → (v = vσ σ ∨ σ = 0) → Iv (uσ σ) (sσ σ) μ ν → Gq z (kC B σ v ν) 4 Q (Cs σ) 1457 μ (lvL B v b (Int32.ofNat j)) []) : Gq z (kC B σ v ν) 4 Q (Cs σ) 458 μ (lvL B v b (Int32.ofNat j)) [] := by
  obtain ⟨r, μ', ν', f1, f2, hI'⟩ := hS.2.2.2.2.2.2.2.2.2.1 (xs (j + 1)) (xs (j + 2)) _ _ _ _ hI
  exact w_call hg hX hb hj hL hs hv (Cs_le σ hs) f1 f2 (nz_of hS.1 hs hI') (IH _ _ _ _ hs hv hI')
theorem k_move {z : Zx} {B : Bx} {b L j F : Nat} {xs : Nat → Int32} {Q : State → Prop} {Iv : Bool → Bool → Mm → Mm → Prop} (hS : Steps F Iv) (hg : Og z B code 4 "RopeDanceLaw" (some .boolean) 13 TL) (hX : va_X b L xs (zs z) (zs z).heap) (hb : b < (zs z).heap.size) (hj : j + 6 ≤ L) (hL : L ≤ 3072) {σ : Nat} {v : Bool} {μ ν : Mm} (hs : σ < 5) (hv : v = vσ σ ∨ σ = 0) (hI : Iv (uσ σ) (sσ σ) μ ν) (IH : ∀ (σ : Nat) (v : Bool) (μ ν : Mm), σ < 5 → (v = vσ σ ∨ σ = 0) → Iv (uσ σ) (sσ σ) μ ν → Gq z (kC B σ v ν) 4 Q (Cs σ) 1457 μ (lvL B v b (Int32.ofNat j)) []) : Gq z (kC B σ v ν) 4 Q (Cs σ) 491 μ (lvL B v b (Int32.ofNat j)) [] := by
  obtain ⟨r, μ', ν', f1, f2, hI'⟩ := hS.2.2.2.2.2.2.2.2.2.2.1 (xs (j + 1)) (xs (j + 2)) (xs (j + 3)) _ _ _ _ hI
  exact w_move hg hX hb hj hL hs hv (Cs_le σ hs) f1 f2 (nz_of hS.1 hs hI') (IH _ _ _ _ hs hv hI')
theorem k_let {z : Zx} {B : Bx} {b L j F : Nat} {xs : Nat → Int32} {Q : State → Prop} {Iv : Bool → Bool → Mm → Mm → Prop} (hS : Steps F Iv) (hg : Og z B code 4 "RopeDanceLaw" (some .boolean) 13 TL) (hX : va_X b L xs (zs z) (zs z).heap) (hb : b < (zs z).heap.size) (hj : j + 6 ≤ L) (hL : L ≤ 3072) {σ : Nat} {v : Bool} {μ ν : Mm} (hs : σ < 5) (hv : v = vσ σ ∨ σ = 0) (hI : Iv (uσ σ) (sσ σ) μ ν) (IH : ∀ (σ : Nat) (v : Bool) (μ ν : Mm), σ < 5 → (v = vσ σ ∨ σ = 0) → Iv (uσ σ) (sσ σ) μ ν → Gq z (kC B σ v ν) 4 Q (Cs σ) 1457 μ (lvL B v b (Int32.ofNat j)) []) : Gq z (kC B σ v ν) 4 Q (Cs σ) 534 μ (lvL B v b (Int32.ofNat j)) [] := by
  obtain ⟨r, μ', ν', f1, f2, hI'⟩ := hS.2.2.2.2.2.2.2.2.2.2.2.1 (xs (j + 1)) _ _ _ _ hI
  exact w_let hg hX hb hj hL hs hv (Cs_le σ hs) f1 f2 (nz_of hS.1 hs hI') (IH _ _ _ _ hs hv hI')
theorem k_minutes {z : Zx} {B : Bx} {b L j F : Nat} {xs : Nat → Int32} {Q : State → Prop} {Iv : Bool → Bool → Mm → Mm → Prop} (hS : Steps F Iv) (hg : Og z B code 4 "RopeDanceLaw" (some .boolean) 13 TL) (hX : va_X b L xs (zs z) (zs z).heap) (hb : b < (zs z).heap.size) (hj : j + 6 ≤ L) (hL : L ≤ 3072) {σ : Nat} {v : Bool} {μ ν : Mm} (hs : σ < 5) (hv : v = vσ σ ∨ σ = 0) (hI : Iv (uσ σ) (sσ σ) μ ν) (IH : ∀ (σ : Nat) (v : Bool) (μ ν : Mm), σ < 5 → (v = vσ σ ∨ σ = 0) → Iv (uσ σ) (sσ σ) μ ν → Gq z (kC B σ v ν) 4 Q (Cs σ) 1457 μ (lvL B v b (Int32.ofNat j)) []) : Gq z (kC B σ v ν) 4 Q (Cs σ) 557 μ (lvL B v b (Int32.ofNat j)) [] := by
  obtain ⟨r, μ', ν', f1, f2, hI'⟩ := hS.2.2.2.2.2.2.2.2.2.2.2.2.1 (xs (j + 1)) _ _ _ _ hI
  exact w_minutes hg hX hb hj hL hs hv (Cs_le σ hs) f1 f2 (nz_of hS.1 hs hI') (IH _ _ _ _ hs hv hI')
theorem k_undo {z : Zx} {B : Bx} {b L j F : Nat} {xs : Nat → Int32} {Q : State → Prop} {Iv : Bool → Bool → Mm → Mm → Prop} (hS : Steps F Iv) (hg : Og z B code 4 "RopeDanceLaw" (some .boolean) 13 TL) (hX : va_X b L xs (zs z) (zs z).heap) (hb : b < (zs z).heap.size) (hj : j + 6 ≤ L) (hL : L ≤ 3072) {σ : Nat} {v : Bool} {μ ν : Mm} (hs : σ < 5) (hv : v = vσ σ ∨ σ = 0) (hI : Iv (uσ σ) (sσ σ) μ ν) (IH : ∀ (σ : Nat) (v : Bool) (μ ν : Mm), σ < 5 → (v = vσ σ ∨ σ = 0) → Iv (uσ σ) (sσ σ) μ ν → Gq z (kC B σ v ν) 4 Q (Cs σ) 1457 μ (lvL B v b (Int32.ofNat j)) []) : Gq z (kC B σ v ν) 4 Q (Cs σ) 580 μ (lvL B v b (Int32.ofNat j)) [] := by
  obtain ⟨r, μ', ν', f1, f2, hI'⟩ := hS.2.2.2.2.2.2.2.2.2.2.2.2.2.1 _ _ _ _ hI
  exact w_undo hg hX hb hj hL hs hv (Cs_le σ hs) f1 f2 (nz_of hS.1 hs hI') (IH _ _ _ _ hs hv hI')
theorem k_least {z : Zx} {B : Bx} {b L j F : Nat} {xs : Nat → Int32} {Q : State → Prop} {Iv : Bool → Bool → Mm → Mm → Prop} (hS : Steps F Iv) (hg : Og z B code 4 "RopeDanceLaw" (some .boolean) 13 TL) (hX : va_X b L xs (zs z) (zs z).heap) (hb : b < (zs z).heap.size) (hj : j + 6 ≤ L) (hL : L ≤ 3072) {σ : Nat} {v : Bool} {μ ν : Mm} (hs : σ < 5) (hv : v = vσ σ ∨ σ = 0) (hI : Iv (uσ σ) (sσ σ) μ ν) (IH : ∀ (σ : Nat) (v : Bool) (μ ν : Mm), σ < 5 → (v = vσ σ ∨ σ = 0) → Iv (uσ σ) (sσ σ) μ ν → Gq z (kC B σ v ν) 4 Q (Cs σ) 1457 μ (lvL B v b (Int32.ofNat j)) []) : Gq z (kC B σ v ν) 4 Q (Cs σ) 593 μ (lvL B v b (Int32.ofNat j)) [] := by
  rcases (show σ = 0 ∨ σ = 1 ∨ σ = 2 ∨ σ = 3 ∨ σ = 4 by omega) with rfl | rfl | rfl | rfl | rfl
  · have hI : Iv false false μ ν := hI
    rcases (hS.2.2.2.2.2.2.2.2.2.2.2.2.2.2.1 (xs (j + 1)) false _ _).2 hI with ⟨r, μ', ν', f1, f2, hI'⟩ | ⟨r, μ', ν', f1, f2, hI'⟩
    · exact wn_least hg hX hb hj hL hs hv (Cs_le 0 hs) f1 f2 (nz_of hS.1 (σ := 0) hs hI') (IH 0 v _ _ hs hv hI')
    · refine l_v (v' := false) ?_
      rw [lvL_v (v := v) (v' := false)]
      exact wa0_least hg hX hb hj hL f1 f2 (nz_of hS.1 (σ := 1) (by decide) hI') (IH 1 false _ _ (by decide) (Or.inl rfl) hI')
  · have hI : Iv true false μ ν := hI
    obtain ⟨r, μ', ν', f1, f2, hI'⟩ := (hS.2.2.2.2.2.2.2.2.2.2.2.2.2.2.1 (xs (j + 1)) false _ _).1 hI
    exact w_least hg hX hb hj hL hs hv (Cs_le 1 hs) e10.1 f1 f2 (nz_of hS.1 (σ := 1) hs hI') (IH 1 v _ _ hs hv hI')
  · have hI : Iv false true μ ν := hI
    rcases (hS.2.2.2.2.2.2.2.2.2.2.2.2.2.2.1 (xs (j + 1)) true _ _).2 hI with ⟨r, μ', ν', f1, f2, hI'⟩ | ⟨r, μ', ν', f1, f2, hI'⟩
    · exact wn_least hg hX hb hj hL hs hv (Cs_le 2 hs) f1 f2 (nz_of hS.1 (σ := 2) hs hI') (IH 2 v _ _ hs hv hI')
    · have e : v = true := hv.elim (fun q => q) (fun q => absurd q (by decide))
      subst e
      exact wa2_least hg hX hb hj hL f1 f2 (nz_of hS.1 (σ := 4) (by decide) hI') (IH 4 true _ _ (by decide) (Or.inl rfl) hI')
  · have hI : Iv true true μ ν := hI
    obtain ⟨r, μ', ν', f1, f2, hI'⟩ := (hS.2.2.2.2.2.2.2.2.2.2.2.2.2.2.1 (xs (j + 1)) true _ _).1 hI
    exact w_least hg hX hb hj hL hs hv (Cs_le 3 hs) e10.2.1 f1 f2 (nz_of hS.1 (σ := 3) hs hI') (IH 3 v _ _ hs hv hI')
  · have hI : Iv true true μ ν := hI
    obtain ⟨r, μ', ν', f1, f2, hI'⟩ := (hS.2.2.2.2.2.2.2.2.2.2.2.2.2.2.1 (xs (j + 1)) true _ _).1 hI
    exact w_least hg hX hb hj hL hs hv (Cs_le 4 hs) e10.2.2 f1 f2 (nz_of hS.1 (σ := 4) hs hI') (IH 4 v _ _ hs hv hI')
theorem k_ways {z : Zx} {B : Bx} {b L j F : Nat} {xs : Nat → Int32} {Q : State → Prop} {Iv : Bool → Bool → Mm → Mm → Prop} (hS : Steps F Iv) (hg : Og z B code 4 "RopeDanceLaw" (some .boolean) 13 TL) (hX : va_X b L xs (zs z) (zs z).heap) (hb : b < (zs z).heap.size) (hj : j + 6 ≤ L) (hL : L ≤ 3072) {σ : Nat} {v : Bool} {μ ν : Mm} (hs : σ < 5) (hv : v = vσ σ ∨ σ = 0) (hI : Iv (uσ σ) (sσ σ) μ ν) (IH : ∀ (σ : Nat) (v : Bool) (μ ν : Mm), σ < 5 → (v = vσ σ ∨ σ = 0) → Iv (uσ σ) (sσ σ) μ ν → Gq z (kC B σ v ν) 4 Q (Cs σ) 1457 μ (lvL B v b (Int32.ofNat j)) []) : Gq z (kC B σ v ν) 4 Q (Cs σ) 616 μ (lvL B v b (Int32.ofNat j)) [] := by
  rcases (show σ = 0 ∨ σ = 1 ∨ σ = 2 ∨ σ = 3 ∨ σ = 4 by omega) with rfl | rfl | rfl | rfl | rfl
  · have hI : Iv false false μ ν := hI
    rcases (hS.2.2.2.2.2.2.2.2.2.2.2.2.2.2.2.1 (xs (j + 1)) false _ _).2 hI with ⟨r, μ', ν', f1, f2, hI'⟩ | ⟨r, μ', ν', f1, f2, hI'⟩
    · exact wn_ways hg hX hb hj hL hs hv (Cs_le 0 hs) f1 f2 (nz_of hS.1 (σ := 0) hs hI') (IH 0 v _ _ hs hv hI')
    · refine l_v (v' := false) ?_
      rw [lvL_v (v := v) (v' := false)]
      exact wa0_ways hg hX hb hj hL f1 f2 (nz_of hS.1 (σ := 1) (by decide) hI') (IH 1 false _ _ (by decide) (Or.inl rfl) hI')
  · have hI : Iv true false μ ν := hI
    obtain ⟨r, μ', ν', f1, f2, hI'⟩ := (hS.2.2.2.2.2.2.2.2.2.2.2.2.2.2.2.1 (xs (j + 1)) false _ _).1 hI
    exact w_ways hg hX hb hj hL hs hv (Cs_le 1 hs) e10.1 f1 f2 (nz_of hS.1 (σ := 1) hs hI') (IH 1 v _ _ hs hv hI')
  · have hI : Iv false true μ ν := hI
    rcases (hS.2.2.2.2.2.2.2.2.2.2.2.2.2.2.2.1 (xs (j + 1)) true _ _).2 hI with ⟨r, μ', ν', f1, f2, hI'⟩ | ⟨r, μ', ν', f1, f2, hI'⟩
    · exact wn_ways hg hX hb hj hL hs hv (Cs_le 2 hs) f1 f2 (nz_of hS.1 (σ := 2) hs hI') (IH 2 v _ _ hs hv hI')
    · have e : v = true := hv.elim (fun q => q) (fun q => absurd q (by decide))
      subst e
      exact wa2_ways hg hX hb hj hL f1 f2 (nz_of hS.1 (σ := 4) (by decide) hI') (IH 4 true _ _ (by decide) (Or.inl rfl) hI')
  · have hI : Iv true true μ ν := hI
    obtain ⟨r, μ', ν', f1, f2, hI'⟩ := (hS.2.2.2.2.2.2.2.2.2.2.2.2.2.2.2.1 (xs (j + 1)) true _ _).1 hI
    exact w_ways hg hX hb hj hL hs hv (Cs_le 3 hs) e10.2.1 f1 f2 (nz_of hS.1 (σ := 3) hs hI') (IH 3 v _ _ hs hv hI')
  · have hI : Iv true true μ ν := hI
    obtain ⟨r, μ', ν', f1, f2, hI'⟩ := (hS.2.2.2.2.2.2.2.2.2.2.2.2.2.2.2.1 (xs (j + 1)) true _ _).1 hI
    exact w_ways hg hX hb hj hL hs hv (Cs_le 4 hs) e10.2.2 f1 f2 (nz_of hS.1 (σ := 4) hs hI') (IH 4 v _ _ hs hv hI')
theorem k_step {z : Zx} {B : Bx} {b L j F : Nat} {xs : Nat → Int32} {Q : State → Prop} {Iv : Bool → Bool → Mm → Mm → Prop} (hS : Steps F Iv) (hg : Og z B code 4 "RopeDanceLaw" (some .boolean) 13 TL) (hX : va_X b L xs (zs z) (zs z).heap) (hb : b < (zs z).heap.size) (hj : j + 6 ≤ L) (hL : L ≤ 3072) {σ : Nat} {v : Bool} {μ ν : Mm} (hs : σ < 5) (hv : v = vσ σ ∨ σ = 0) (hI : Iv (uσ σ) (sσ σ) μ ν) (IH : ∀ (σ : Nat) (v : Bool) (μ ν : Mm), σ < 5 → (v = vσ σ ∨ σ = 0) → Iv (uσ σ) (sσ σ) μ ν → Gq z (kC B σ v ν) 4 Q (Cs σ) 1457 μ (lvL B v b (Int32.ofNat j)) []) : Gq z (kC B σ v ν) 4 Q (Cs σ) 639 μ (lvL B v b (Int32.ofNat j)) [] := by
  rcases (show σ = 0 ∨ σ = 1 ∨ σ = 2 ∨ σ = 3 ∨ σ = 4 by omega) with rfl | rfl | rfl | rfl | rfl
  · have hI : Iv false false μ ν := hI
    rcases (hS.2.2.2.2.2.2.2.2.2.2.2.2.2.2.2.2.1 (xs (j + 1)) (xs (j + 2)) false _ _).2 hI with ⟨r, μ', ν', f1, f2, hI'⟩ | ⟨r, μ', ν', f1, f2, hI'⟩
    · exact wn_step hg hX hb hj hL hs hv (Cs_le 0 hs) f1 f2 (nz_of hS.1 (σ := 0) hs hI') (IH 0 v _ _ hs hv hI')
    · refine l_v (v' := false) ?_
      rw [lvL_v (v := v) (v' := false)]
      exact wa0_step hg hX hb hj hL f1 f2 (nz_of hS.1 (σ := 1) (by decide) hI') (IH 1 false _ _ (by decide) (Or.inl rfl) hI')
  · have hI : Iv true false μ ν := hI
    obtain ⟨r, μ', ν', f1, f2, hI'⟩ := (hS.2.2.2.2.2.2.2.2.2.2.2.2.2.2.2.2.1 (xs (j + 1)) (xs (j + 2)) false _ _).1 hI
    exact w_step hg hX hb hj hL hs hv (Cs_le 1 hs) e10.1 f1 f2 (nz_of hS.1 (σ := 1) hs hI') (IH 1 v _ _ hs hv hI')
  · have hI : Iv false true μ ν := hI
    rcases (hS.2.2.2.2.2.2.2.2.2.2.2.2.2.2.2.2.1 (xs (j + 1)) (xs (j + 2)) true _ _).2 hI with ⟨r, μ', ν', f1, f2, hI'⟩ | ⟨r, μ', ν', f1, f2, hI'⟩
    · exact wn_step hg hX hb hj hL hs hv (Cs_le 2 hs) f1 f2 (nz_of hS.1 (σ := 2) hs hI') (IH 2 v _ _ hs hv hI')
    · have e : v = true := hv.elim (fun q => q) (fun q => absurd q (by decide))
      subst e
      exact wa2_step hg hX hb hj hL f1 f2 (nz_of hS.1 (σ := 4) (by decide) hI') (IH 4 true _ _ (by decide) (Or.inl rfl) hI')
  · have hI : Iv true true μ ν := hI
    obtain ⟨r, μ', ν', f1, f2, hI'⟩ := (hS.2.2.2.2.2.2.2.2.2.2.2.2.2.2.2.2.1 (xs (j + 1)) (xs (j + 2)) true _ _).1 hI
    exact w_step hg hX hb hj hL hs hv (Cs_le 3 hs) e10.2.1 f1 f2 (nz_of hS.1 (σ := 3) hs hI') (IH 3 v _ _ hs hv hI')
  · have hI : Iv true true μ ν := hI
    obtain ⟨r, μ', ν', f1, f2, hI'⟩ := (hS.2.2.2.2.2.2.2.2.2.2.2.2.2.2.2.2.1 (xs (j + 1)) (xs (j + 2)) true _ _).1 hI
    exact w_step hg hX hb hj hL hs hv (Cs_le 4 hs) e10.2.2 f1 f2 (nz_of hS.1 (σ := 4) hs hI') (IH 4 v _ _ hs hv hI')
theorem k_plan {z : Zx} {B : Bx} {b L j F : Nat} {xs : Nat → Int32} {Q : State → Prop} {Iv : Bool → Bool → Mm → Mm → Prop} (hS : Steps F Iv) (hg : Og z B code 4 "RopeDanceLaw" (some .boolean) 13 TL) (hX : va_X b L xs (zs z) (zs z).heap) (hb : b < (zs z).heap.size) (hj : j + 6 ≤ L) (hL : L ≤ 3072) {σ : Nat} {v : Bool} {μ ν : Mm} (hs : σ < 5) (hv : v = vσ σ ∨ σ = 0) (hI : Iv (uσ σ) (sσ σ) μ ν) (IH : ∀ (σ : Nat) (v : Bool) (μ ν : Mm), σ < 5 → (v = vσ σ ∨ σ = 0) → Iv (uσ σ) (sσ σ) μ ν → Gq z (kC B σ v ν) 4 Q (Cs σ) 1457 μ (lvL B v b (Int32.ofNat j)) []) : Gq z (kC B σ v ν) 4 Q (Cs σ) 672 μ (lvL B v b (Int32.ofNat j)) [] := by
  rcases (show σ = 0 ∨ σ = 1 ∨ σ = 2 ∨ σ = 3 ∨ σ = 4 by omega) with rfl | rfl | rfl | rfl | rfl
  · have hI : Iv false false μ ν := hI
    rcases (hS.2.2.2.2.2.2.2.2.2.2.2.2.2.2.2.2.2.1 (xs (j + 1)) (xs (j + 2)) false _ _).2 hI with ⟨r, μ', ν', f1, f2, hI'⟩ | ⟨r, μ', ν', f1, f2, hI'⟩
    · exact wn_plan hg hX hb hj hL hs hv (Cs_le 0 hs) f1 f2 (nz_of hS.1 (σ := 0) hs hI') (IH 0 v _ _ hs hv hI')
    · refine l_v (v' := true) ?_
      rw [lvL_v (v := v) (v' := true)]
      exact wa0_plan hg hX hb hj hL f1 f2 (nz_of hS.1 (σ := 2) (by decide) hI') (IH 2 true _ _ (by decide) (Or.inl rfl) hI')
  · have hI : Iv true false μ ν := hI
    rcases (hS.2.2.2.2.2.2.2.2.2.2.2.2.2.2.2.2.2.1 (xs (j + 1)) (xs (j + 2)) true _ _).2 hI with ⟨r, μ', ν', f1, f2, hI'⟩ | ⟨r, μ', ν', f1, f2, hI'⟩
    · exact wn_plan hg hX hb hj hL hs hv (Cs_le 1 hs) f1 f2 (nz_of hS.1 (σ := 1) hs hI') (IH 1 v _ _ hs hv hI')
    · have e : v = false := hv.elim (fun q => q) (fun q => absurd q (by decide))
      subst e
      exact wa1_plan hg hX hb hj hL f1 f2 (nz_of hS.1 (σ := 3) (by decide) hI') (IH 3 false _ _ (by decide) (Or.inl rfl) hI')
  · have hI : Iv false true μ ν := hI
    obtain ⟨r, μ', ν', f1, f2, hI'⟩ := (hS.2.2.2.2.2.2.2.2.2.2.2.2.2.2.2.2.2.1 (xs (j + 1)) (xs (j + 2)) false _ _).1 hI
    exact w_plan hg hX hb hj hL hs hv (Cs_le 2 hs) e4.1 f1 f2 (nz_of hS.1 (σ := 2) hs hI') (IH 2 v _ _ hs hv hI')
  · have hI : Iv true true μ ν := hI
    obtain ⟨r, μ', ν', f1, f2, hI'⟩ := (hS.2.2.2.2.2.2.2.2.2.2.2.2.2.2.2.2.2.1 (xs (j + 1)) (xs (j + 2)) true _ _).1 hI
    exact w_plan hg hX hb hj hL hs hv (Cs_le 3 hs) e4.2.1 f1 f2 (nz_of hS.1 (σ := 3) hs hI') (IH 3 v _ _ hs hv hI')
  · have hI : Iv true true μ ν := hI
    obtain ⟨r, μ', ν', f1, f2, hI'⟩ := (hS.2.2.2.2.2.2.2.2.2.2.2.2.2.2.2.2.2.1 (xs (j + 1)) (xs (j + 2)) true _ _).1 hI
    exact w_plan hg hX hb hj hL hs hv (Cs_le 4 hs) e4.2.2 f1 f2 (nz_of hS.1 (σ := 4) hs hI') (IH 4 v _ _ hs hv hI')
theorem k_bring {z : Zx} {B : Bx} {b L j F : Nat} {xs : Nat → Int32} {Q : State → Prop} {Iv : Bool → Bool → Mm → Mm → Prop} (hS : Steps F Iv) (hg : Og z B code 4 "RopeDanceLaw" (some .boolean) 13 TL) (hX : va_X b L xs (zs z) (zs z).heap) (hb : b < (zs z).heap.size) (hj : j + 6 ≤ L) (hL : L ≤ 3072) {σ : Nat} {v : Bool} {μ ν : Mm} (hs : σ < 5) (hv : v = vσ σ ∨ σ = 0) (hI : Iv (uσ σ) (sσ σ) μ ν) (IH : ∀ (σ : Nat) (v : Bool) (μ ν : Mm), σ < 5 → (v = vσ σ ∨ σ = 0) → Iv (uσ σ) (sσ σ) μ ν → Gq z (kC B σ v ν) 4 Q (Cs σ) 1457 μ (lvL B v b (Int32.ofNat j)) []) : Gq z (kC B σ v ν) 4 Q (Cs σ) 705 μ (lvL B v b (Int32.ofNat j)) [] := by
  rcases (show σ = 0 ∨ σ = 1 ∨ σ = 2 ∨ σ = 3 ∨ σ = 4 by omega) with rfl | rfl | rfl | rfl | rfl
  · have hI : Iv false false μ ν := hI
    rcases (hS.2.2.2.2.2.2.2.2.2.2.2.2.2.2.2.2.2.2.1 (xs (j + 1)) (xs (j + 2)) (xs (j + 3)) false _ _).2 hI with ⟨r, μ', ν', f1, f2, hI'⟩ | ⟨r, μ', ν', f1, f2, hI'⟩
    · exact wn_bring hg hX hb hj hL hs hv (Cs_le 0 hs) f1 f2 (nz_of hS.1 (σ := 0) hs hI') (IH 0 v _ _ hs hv hI')
    · refine l_v (v' := true) ?_
      rw [lvL_v (v := v) (v' := true)]
      exact wa0_bring hg hX hb hj hL f1 f2 (nz_of hS.1 (σ := 2) (by decide) hI') (IH 2 true _ _ (by decide) (Or.inl rfl) hI')
  · have hI : Iv true false μ ν := hI
    rcases (hS.2.2.2.2.2.2.2.2.2.2.2.2.2.2.2.2.2.2.1 (xs (j + 1)) (xs (j + 2)) (xs (j + 3)) true _ _).2 hI with ⟨r, μ', ν', f1, f2, hI'⟩ | ⟨r, μ', ν', f1, f2, hI'⟩
    · exact wn_bring hg hX hb hj hL hs hv (Cs_le 1 hs) f1 f2 (nz_of hS.1 (σ := 1) hs hI') (IH 1 v _ _ hs hv hI')
    · have e : v = false := hv.elim (fun q => q) (fun q => absurd q (by decide))
      subst e
      exact wa1_bring hg hX hb hj hL f1 f2 (nz_of hS.1 (σ := 3) (by decide) hI') (IH 3 false _ _ (by decide) (Or.inl rfl) hI')
  · have hI : Iv false true μ ν := hI
    obtain ⟨r, μ', ν', f1, f2, hI'⟩ := (hS.2.2.2.2.2.2.2.2.2.2.2.2.2.2.2.2.2.2.1 (xs (j + 1)) (xs (j + 2)) (xs (j + 3)) false _ _).1 hI
    exact w_bring hg hX hb hj hL hs hv (Cs_le 2 hs) e4.1 f1 f2 (nz_of hS.1 (σ := 2) hs hI') (IH 2 v _ _ hs hv hI')
  · have hI : Iv true true μ ν := hI
    obtain ⟨r, μ', ν', f1, f2, hI'⟩ := (hS.2.2.2.2.2.2.2.2.2.2.2.2.2.2.2.2.2.2.1 (xs (j + 1)) (xs (j + 2)) (xs (j + 3)) true _ _).1 hI
    exact w_bring hg hX hb hj hL hs hv (Cs_le 3 hs) e4.2.1 f1 f2 (nz_of hS.1 (σ := 3) hs hI') (IH 3 v _ _ hs hv hI')
  · have hI : Iv true true μ ν := hI
    obtain ⟨r, μ', ν', f1, f2, hI'⟩ := (hS.2.2.2.2.2.2.2.2.2.2.2.2.2.2.2.2.2.2.1 (xs (j + 1)) (xs (j + 2)) (xs (j + 3)) true _ _).1 hI
    exact w_bring hg hX hb hj hL hs hv (Cs_le 4 hs) e4.2.2 f1 f2 (nz_of hS.1 (σ := 4) hs hI') (IH 4 v _ _ hs hv hI')
theorem k_reach {z : Zx} {B : Bx} {b L j F : Nat} {xs : Nat → Int32} {Q : State → Prop} {Iv : Bool → Bool → Mm → Mm → Prop} (hS : Steps F Iv) (hg : Og z B code 4 "RopeDanceLaw" (some .boolean) 13 TL) (hX : va_X b L xs (zs z) (zs z).heap) (hb : b < (zs z).heap.size) (hj : j + 6 ≤ L) (hL : L ≤ 3072) {σ : Nat} {v : Bool} {μ ν : Mm} (hs : σ < 5) (hv : v = vσ σ ∨ σ = 0) (hI : Iv (uσ σ) (sσ σ) μ ν) (IH : ∀ (σ : Nat) (v : Bool) (μ ν : Mm), σ < 5 → (v = vσ σ ∨ σ = 0) → Iv (uσ σ) (sσ σ) μ ν → Gq z (kC B σ v ν) 4 Q (Cs σ) 1457 μ (lvL B v b (Int32.ofNat j)) []) : Gq z (kC B σ v ν) 4 Q (Cs σ) 748 μ (lvL B v b (Int32.ofNat j)) [] := by
  rcases (show σ = 0 ∨ σ = 1 ∨ σ = 2 ∨ σ = 3 ∨ σ = 4 by omega) with rfl | rfl | rfl | rfl | rfl
  · have hI : Iv false false μ ν := hI
    rcases (hS.2.2.2.2.2.2.2.2.2.2.2.2.2.2.2.2.2.2.2.1 (xs (j + 1)) false _ _).2 hI with ⟨r, μ', ν', f1, f2, hI'⟩ | ⟨r, μ', ν', f1, f2, hI'⟩
    · exact wn_reach hg hX hb hj hL hs hv (Cs_le 0 hs) f1 f2 (nz_of hS.1 (σ := 0) hs hI') (IH 0 v _ _ hs hv hI')
    · refine l_v (v' := true) ?_
      rw [lvL_v (v := v) (v' := true)]
      exact wa0_reach hg hX hb hj hL f1 f2 (nz_of hS.1 (σ := 2) (by decide) hI') (IH 2 true _ _ (by decide) (Or.inl rfl) hI')
  · have hI : Iv true false μ ν := hI
    rcases (hS.2.2.2.2.2.2.2.2.2.2.2.2.2.2.2.2.2.2.2.1 (xs (j + 1)) true _ _).2 hI with ⟨r, μ', ν', f1, f2, hI'⟩ | ⟨r, μ', ν', f1, f2, hI'⟩
    · exact wn_reach hg hX hb hj hL hs hv (Cs_le 1 hs) f1 f2 (nz_of hS.1 (σ := 1) hs hI') (IH 1 v _ _ hs hv hI')
    · have e : v = false := hv.elim (fun q => q) (fun q => absurd q (by decide))
      subst e
      exact wa1_reach hg hX hb hj hL f1 f2 (nz_of hS.1 (σ := 3) (by decide) hI') (IH 3 false _ _ (by decide) (Or.inl rfl) hI')
  · have hI : Iv false true μ ν := hI
    obtain ⟨r, μ', ν', f1, f2, hI'⟩ := (hS.2.2.2.2.2.2.2.2.2.2.2.2.2.2.2.2.2.2.2.1 (xs (j + 1)) false _ _).1 hI
    exact w_reach hg hX hb hj hL hs hv (Cs_le 2 hs) e4.1 f1 f2 (nz_of hS.1 (σ := 2) hs hI') (IH 2 v _ _ hs hv hI')
  · have hI : Iv true true μ ν := hI
    obtain ⟨r, μ', ν', f1, f2, hI'⟩ := (hS.2.2.2.2.2.2.2.2.2.2.2.2.2.2.2.2.2.2.2.1 (xs (j + 1)) true _ _).1 hI
    exact w_reach hg hX hb hj hL hs hv (Cs_le 3 hs) e4.2.1 f1 f2 (nz_of hS.1 (σ := 3) hs hI') (IH 3 v _ _ hs hv hI')
  · have hI : Iv true true μ ν := hI
    obtain ⟨r, μ', ν', f1, f2, hI'⟩ := (hS.2.2.2.2.2.2.2.2.2.2.2.2.2.2.2.2.2.2.2.1 (xs (j + 1)) true _ _).1 hI
    exact w_reach hg hX hb hj hL hs hv (Cs_le 4 hs) e4.2.2 f1 f2 (nz_of hS.1 (σ := 4) hs hI') (IH 4 v _ _ hs hv hI')
theorem k_alike {z : Zx} {B : Bx} {b L j F : Nat} {xs : Nat → Int32} {Q : State → Prop} {Iv : Bool → Bool → Mm → Mm → Prop} (hS : Steps F Iv) (hg : Og z B code 4 "RopeDanceLaw" (some .boolean) 13 TL) (hX : va_X b L xs (zs z) (zs z).heap) (hb : b < (zs z).heap.size) (hj : j + 6 ≤ L) (hL : L ≤ 3072) {σ : Nat} {v : Bool} {μ ν : Mm} (hs : σ < 5) (hv : v = vσ σ ∨ σ = 0) (hI : Iv (uσ σ) (sσ σ) μ ν) (IH : ∀ (σ : Nat) (v : Bool) (μ ν : Mm), σ < 5 → (v = vσ σ ∨ σ = 0) → Iv (uσ σ) (sσ σ) μ ν → Gq z (kC B σ v ν) 4 Q (Cs σ) 1457 μ (lvL B v b (Int32.ofNat j)) []) : Gq z (kC B σ v ν) 4 Q (Cs σ) 771 μ (lvL B v b (Int32.ofNat j)) [] := by
  obtain ⟨r, μ', ν', f1, f2, hI'⟩ := hS.2.2.2.2.2.2.2.2.2.2.2.2.2.2.2.2.2.2.2.2.1 (xs (j + 1)) (xs (j + 2)) _ _ _ _ hI
  exact w_alike hg hX hb hj hL hs hv (Cs_le σ hs) f1 f2 (nz_of hS.1 hs hI') (IH _ _ _ _ hs hv hI')
theorem k_closed {z : Zx} {B : Bx} {b L j F : Nat} {xs : Nat → Int32} {Q : State → Prop} {Iv : Bool → Bool → Mm → Mm → Prop} (hS : Steps F Iv) (hg : Og z B code 4 "RopeDanceLaw" (some .boolean) 13 TL) (hX : va_X b L xs (zs z) (zs z).heap) (hb : b < (zs z).heap.size) (hj : j + 6 ≤ L) (hL : L ≤ 3072) {σ : Nat} {v : Bool} {μ ν : Mm} (hs : σ < 5) (hv : v = vσ σ ∨ σ = 0) (hI : Iv (uσ σ) (sσ σ) μ ν) (IH : ∀ (σ : Nat) (v : Bool) (μ ν : Mm), σ < 5 → (v = vσ σ ∨ σ = 0) → Iv (uσ σ) (sσ σ) μ ν → Gq z (kC B σ v ν) 4 Q (Cs σ) 1457 μ (lvL B v b (Int32.ofNat j)) []) : Gq z (kC B σ v ν) 4 Q (Cs σ) 804 μ (lvL B v b (Int32.ofNat j)) [] := by
  obtain ⟨r, μ', ν', f1, f2, hI'⟩ := hS.2.2.2.2.2.2.2.2.2.2.2.2.2.2.2.2.2.2.2.2.2.1 (xs (j + 1)) (xs (j + 2)) _ _ _ _ hI
  exact w_closed hg hX hb hj hL hs hv (Cs_le σ hs) f1 f2 (nz_of hS.1 hs hI') (IH _ _ _ _ hs hv hI')
theorem k_colours {z : Zx} {B : Bx} {b L j F : Nat} {xs : Nat → Int32} {Q : State → Prop} {Iv : Bool → Bool → Mm → Mm → Prop} (hS : Steps F Iv) (hg : Og z B code 4 "RopeDanceLaw" (some .boolean) 13 TL) (hX : va_X b L xs (zs z) (zs z).heap) (hb : b < (zs z).heap.size) (hj : j + 6 ≤ L) (hL : L ≤ 3072) {σ : Nat} {v : Bool} {μ ν : Mm} (hs : σ < 5) (hv : v = vσ σ ∨ σ = 0) (hI : Iv (uσ σ) (sσ σ) μ ν) (IH : ∀ (σ : Nat) (v : Bool) (μ ν : Mm), σ < 5 → (v = vσ σ ∨ σ = 0) → Iv (uσ σ) (sσ σ) μ ν → Gq z (kC B σ v ν) 4 Q (Cs σ) 1457 μ (lvL B v b (Int32.ofNat j)) []) : Gq z (kC B σ v ν) 4 Q (Cs σ) 837 μ (lvL B v b (Int32.ofNat j)) [] := by
  obtain ⟨r, μ', ν', f1, f2, hI'⟩ := hS.2.2.2.2.2.2.2.2.2.2.2.2.2.2.2.2.2.2.2.2.2.2.1 (xs (j + 1)) (xs (j + 2)) _ _ _ _ hI
  exact w_colours hg hX hb hj hL hs hv (Cs_le σ hs) f1 f2 (nz_of hS.1 hs hI') (IH _ _ _ _ hs hv hI')
theorem k_joined {z : Zx} {B : Bx} {b L j F : Nat} {xs : Nat → Int32} {Q : State → Prop} {Iv : Bool → Bool → Mm → Mm → Prop} (hS : Steps F Iv) (hg : Og z B code 4 "RopeDanceLaw" (some .boolean) 13 TL) (hX : va_X b L xs (zs z) (zs z).heap) (hb : b < (zs z).heap.size) (hj : j + 6 ≤ L) (hL : L ≤ 3072) {σ : Nat} {v : Bool} {μ ν : Mm} (hs : σ < 5) (hv : v = vσ σ ∨ σ = 0) (hI : Iv (uσ σ) (sσ σ) μ ν) (IH : ∀ (σ : Nat) (v : Bool) (μ ν : Mm), σ < 5 → (v = vσ σ ∨ σ = 0) → Iv (uσ σ) (sσ σ) μ ν → Gq z (kC B σ v ν) 4 Q (Cs σ) 1457 μ (lvL B v b (Int32.ofNat j)) []) : Gq z (kC B σ v ν) 4 Q (Cs σ) 870 μ (lvL B v b (Int32.ofNat j)) [] := by
  obtain ⟨r, μ', ν', f1, f2, hI'⟩ := hS.2.2.2.2.2.2.2.2.2.2.2.2.2.2.2.2.2.2.2.2.2.2.2.1 (xs (j + 1)) (xs (j + 2)) _ _ _ _ hI
  exact w_joined hg hX hb hj hL hs hv (Cs_le σ hs) f1 f2 (nz_of hS.1 hs hI') (IH _ _ _ _ hs hv hI')
theorem k_order {z : Zx} {B : Bx} {b L j F : Nat} {xs : Nat → Int32} {Q : State → Prop} {Iv : Bool → Bool → Mm → Mm → Prop} (hS : Steps F Iv) (hg : Og z B code 4 "RopeDanceLaw" (some .boolean) 13 TL) (hX : va_X b L xs (zs z) (zs z).heap) (hb : b < (zs z).heap.size) (hj : j + 6 ≤ L) (hL : L ≤ 3072) {σ : Nat} {v : Bool} {μ ν : Mm} (hs : σ < 5) (hv : v = vσ σ ∨ σ = 0) (hI : Iv (uσ σ) (sσ σ) μ ν) (IH : ∀ (σ : Nat) (v : Bool) (μ ν : Mm), σ < 5 → (v = vσ σ ∨ σ = 0) → Iv (uσ σ) (sσ σ) μ ν → Gq z (kC B σ v ν) 4 Q (Cs σ) 1457 μ (lvL B v b (Int32.ofNat j)) []) : Gq z (kC B σ v ν) 4 Q (Cs σ) 903 μ (lvL B v b (Int32.ofNat j)) [] := by
  obtain ⟨r, μ', ν', f1, f2, hI'⟩ := hS.2.2.2.2.2.2.2.2.2.2.2.2.2.2.2.2.2.2.2.2.2.2.2.2.1 (xs (j + 1)) _ _ _ _ hI
  exact w_order hg hX hb hj hL hs hv (Cs_le σ hs) f1 f2 (nz_of hS.1 hs hI') (IH _ _ _ _ hs hv hI')
theorem k_round {z : Zx} {B : Bx} {b L j F : Nat} {xs : Nat → Int32} {Q : State → Prop} {Iv : Bool → Bool → Mm → Mm → Prop} (hS : Steps F Iv) (hg : Og z B code 4 "RopeDanceLaw" (some .boolean) 13 TL) (hX : va_X b L xs (zs z) (zs z).heap) (hb : b < (zs z).heap.size) (hj : j + 6 ≤ L) (hL : L ≤ 3072) {σ : Nat} {v : Bool} {μ ν : Mm} (hs : σ < 5) (hv : v = vσ σ ∨ σ = 0) (hI : Iv (uσ σ) (sσ σ) μ ν) (IH : ∀ (σ : Nat) (v : Bool) (μ ν : Mm), σ < 5 → (v = vσ σ ∨ σ = 0) → Iv (uσ σ) (sσ σ) μ ν → Gq z (kC B σ v ν) 4 Q (Cs σ) 1457 μ (lvL B v b (Int32.ofNat j)) []) : Gq z (kC B σ v ν) 4 Q (Cs σ) 926 μ (lvL B v b (Int32.ofNat j)) [] := by
  obtain ⟨r, μ', ν', f1, f2, hI'⟩ := hS.2.2.2.2.2.2.2.2.2.2.2.2.2.2.2.2.2.2.2.2.2.2.2.2.2.1 (xs (j + 1)) (xs (j + 2)) _ _ _ _ hI
  exact w_round hg hX hb hj hL hs hv (Cs_le σ hs) f1 f2 (nz_of hS.1 hs hI') (IH _ _ _ _ hs hv hI')
theorem k_power {z : Zx} {B : Bx} {b L j F : Nat} {xs : Nat → Int32} {Q : State → Prop} {Iv : Bool → Bool → Mm → Mm → Prop} (hS : Steps F Iv) (hg : Og z B code 4 "RopeDanceLaw" (some .boolean) 13 TL) (hX : va_X b L xs (zs z) (zs z).heap) (hb : b < (zs z).heap.size) (hj : j + 6 ≤ L) (hL : L ≤ 3072) {σ : Nat} {v : Bool} {μ ν : Mm} (hs : σ < 5) (hv : v = vσ σ ∨ σ = 0) (hI : Iv (uσ σ) (sσ σ) μ ν) (IH : ∀ (σ : Nat) (v : Bool) (μ ν : Mm), σ < 5 → (v = vσ σ ∨ σ = 0) → Iv (uσ σ) (sσ σ) μ ν → Gq z (kC B σ v ν) 4 Q (Cs σ) 1457 μ (lvL B v b (Int32.ofNat j)) []) : Gq z (kC B σ v ν) 4 Q (Cs σ) 959 μ (lvL B v b (Int32.ofNat j)) [] := by
  obtain ⟨r, μ', ν', f1, f2, hI'⟩ := hS.2.2.2.2.2.2.2.2.2.2.2.2.2.2.2.2.2.2.2.2.2.2.2.2.2.2.1 (xs (j + 1)) (xs (j + 2)) (xs (j + 3)) (xs (j + 4)) _ _ _ _ hI
  exact w_power hg hX hb hj hL hs hv (Cs_le σ hs) f1 f2 (nz_of hS.1 hs hI') (IH _ _ _ _ hs hv hI')
theorem k_stays {z : Zx} {B : Bx} {b L j F : Nat} {xs : Nat → Int32} {Q : State → Prop} {Iv : Bool → Bool → Mm → Mm → Prop} (hS : Steps F Iv) (hg : Og z B code 4 "RopeDanceLaw" (some .boolean) 13 TL) (hX : va_X b L xs (zs z) (zs z).heap) (hb : b < (zs z).heap.size) (hj : j + 6 ≤ L) (hL : L ≤ 3072) {σ : Nat} {v : Bool} {μ ν : Mm} (hs : σ < 5) (hv : v = vσ σ ∨ σ = 0) (hI : Iv (uσ σ) (sσ σ) μ ν) (IH : ∀ (σ : Nat) (v : Bool) (μ ν : Mm), σ < 5 → (v = vσ σ ∨ σ = 0) → Iv (uσ σ) (sσ σ) μ ν → Gq z (kC B σ v ν) 4 Q (Cs σ) 1457 μ (lvL B v b (Int32.ofNat j)) []) : Gq z (kC B σ v ν) 4 Q (Cs σ) 1012 μ (lvL B v b (Int32.ofNat j)) [] := by
  obtain ⟨r, μ', ν', f1, f2, hI'⟩ := hS.2.2.2.2.2.2.2.2.2.2.2.2.2.2.2.2.2.2.2.2.2.2.2.2.2.2.2.1 (xs (j + 1)) (xs (j + 2)) _ _ _ _ hI
  exact w_stays hg hX hb hj hL hs hv (Cs_le σ hs) f1 f2 (nz_of hS.1 hs hI') (IH _ _ _ _ hs hv hI')
theorem k_mind {z : Zx} {B : Bx} {b L j F : Nat} {xs : Nat → Int32} {Q : State → Prop} {Iv : Bool → Bool → Mm → Mm → Prop} (hS : Steps F Iv) (hg : Og z B code 4 "RopeDanceLaw" (some .boolean) 13 TL) (hX : va_X b L xs (zs z) (zs z).heap) (hb : b < (zs z).heap.size) (hj : j + 6 ≤ L) (hL : L ≤ 3072) {σ : Nat} {v : Bool} {μ ν : Mm} (hs : σ < 5) (hv : v = vσ σ ∨ σ = 0) (hI : Iv (uσ σ) (sσ σ) μ ν) (IH : ∀ (σ : Nat) (v : Bool) (μ ν : Mm), σ < 5 → (v = vσ σ ∨ σ = 0) → Iv (uσ σ) (sσ σ) μ ν → Gq z (kC B σ v ν) 4 Q (Cs σ) 1457 μ (lvL B v b (Int32.ofNat j)) []) : Gq z (kC B σ v ν) 4 Q (Cs σ) 1045 μ (lvL B v b (Int32.ofNat j)) [] := by
  obtain ⟨r, μ', ν', f1, f2, hI'⟩ := hS.2.2.2.2.2.2.2.2.2.2.2.2.2.2.2.2.2.2.2.2.2.2.2.2.2.2.2.2.1 (xs (j + 1)) (xs (j + 2)) _ _ _ _ hI
  exact w_mind hg hX hb hj hL hs hv (Cs_le σ hs) f1 f2 (nz_of hS.1 hs hI') (IH _ _ _ _ hs hv hI')
theorem k_reverse {z : Zx} {B : Bx} {b L j F : Nat} {xs : Nat → Int32} {Q : State → Prop} {Iv : Bool → Bool → Mm → Mm → Prop} (hS : Steps F Iv) (hg : Og z B code 4 "RopeDanceLaw" (some .boolean) 13 TL) (hX : va_X b L xs (zs z) (zs z).heap) (hb : b < (zs z).heap.size) (hj : j + 6 ≤ L) (hL : L ≤ 3072) {σ : Nat} {v : Bool} {μ ν : Mm} (hs : σ < 5) (hv : v = vσ σ ∨ σ = 0) (hI : Iv (uσ σ) (sσ σ) μ ν) (IH : ∀ (σ : Nat) (v : Bool) (μ ν : Mm), σ < 5 → (v = vσ σ ∨ σ = 0) → Iv (uσ σ) (sσ σ) μ ν → Gq z (kC B σ v ν) 4 Q (Cs σ) 1457 μ (lvL B v b (Int32.ofNat j)) []) : Gq z (kC B σ v ν) 4 Q (Cs σ) 1078 μ (lvL B v b (Int32.ofNat j)) [] := by
  obtain ⟨r, μ', ν', f1, f2, hI'⟩ := hS.2.2.2.2.2.2.2.2.2.2.2.2.2.2.2.2.2.2.2.2.2.2.2.2.2.2.2.2.2.1 (xs (j + 1)) _ _ _ _ hI
  exact w_reverse hg hX hb hj hL hs hv (Cs_le σ hs) f1 f2 (nz_of hS.1 hs hI') (IH _ _ _ _ hs hv hI')
theorem k_hands {z : Zx} {B : Bx} {b L j F : Nat} {xs : Nat → Int32} {Q : State → Prop} {Iv : Bool → Bool → Mm → Mm → Prop} (hS : Steps F Iv) (hg : Og z B code 4 "RopeDanceLaw" (some .boolean) 13 TL) (hX : va_X b L xs (zs z) (zs z).heap) (hb : b < (zs z).heap.size) (hj : j + 6 ≤ L) (hL : L ≤ 3072) {σ : Nat} {v : Bool} {μ ν : Mm} (hs : σ < 5) (hv : v = vσ σ ∨ σ = 0) (hI : Iv (uσ σ) (sσ σ) μ ν) (IH : ∀ (σ : Nat) (v : Bool) (μ ν : Mm), σ < 5 → (v = vσ σ ∨ σ = 0) → Iv (uσ σ) (sσ σ) μ ν → Gq z (kC B σ v ν) 4 Q (Cs σ) 1457 μ (lvL B v b (Int32.ofNat j)) []) : Gq z (kC B σ v ν) 4 Q (Cs σ) 1101 μ (lvL B v b (Int32.ofNat j)) [] := by
  obtain ⟨r, μ', ν', f1, f2, hI'⟩ := hS.2.2.2.2.2.2.2.2.2.2.2.2.2.2.2.2.2.2.2.2.2.2.2.2.2.2.2.2.2.2.1 (xs (j + 1)) (xs (j + 2)) _ _ _ _ hI
  exact w_hands hg hX hb hj hL hs hv (Cs_le σ hs) f1 f2 (nz_of hS.1 hs hI') (IH _ _ _ _ hs hv hI')
theorem k_then {z : Zx} {B : Bx} {b L j F : Nat} {xs : Nat → Int32} {Q : State → Prop} {Iv : Bool → Bool → Mm → Mm → Prop} (hS : Steps F Iv) (hg : Og z B code 4 "RopeDanceLaw" (some .boolean) 13 TL) (hX : va_X b L xs (zs z) (zs z).heap) (hb : b < (zs z).heap.size) (hj : j + 6 ≤ L) (hL : L ≤ 3072) {σ : Nat} {v : Bool} {μ ν : Mm} (hs : σ < 5) (hv : v = vσ σ ∨ σ = 0) (hI : Iv (uσ σ) (sσ σ) μ ν) (IH : ∀ (σ : Nat) (v : Bool) (μ ν : Mm), σ < 5 → (v = vσ σ ∨ σ = 0) → Iv (uσ σ) (sσ σ) μ ν → Gq z (kC B σ v ν) 4 Q (Cs σ) 1457 μ (lvL B v b (Int32.ofNat j)) []) : Gq z (kC B σ v ν) 4 Q (Cs σ) 1134 μ (lvL B v b (Int32.ofNat j)) [] := by
  obtain ⟨r, μ', ν', f1, f2, hI'⟩ := hS.2.2.2.2.2.2.2.2.2.2.2.2.2.2.2.2.2.2.2.2.2.2.2.2.2.2.2.2.2.2.2.1 (xs (j + 1)) (xs (j + 2)) (xs (j + 3)) _ _ _ _ hI
  exact w_then hg hX hb hj hL hs hv (Cs_le σ hs) f1 f2 (nz_of hS.1 hs hI') (IH _ _ _ _ hs hv hI')
theorem k_year {z : Zx} {B : Bx} {b L j F : Nat} {xs : Nat → Int32} {Q : State → Prop} {Iv : Bool → Bool → Mm → Mm → Prop} (hS : Steps F Iv) (hg : Og z B code 4 "RopeDanceLaw" (some .boolean) 13 TL) (hX : va_X b L xs (zs z) (zs z).heap) (hb : b < (zs z).heap.size) (hj : j + 6 ≤ L) (hL : L ≤ 3072) {σ : Nat} {v : Bool} {μ ν : Mm} (hs : σ < 5) (hv : v = vσ σ ∨ σ = 0) (hI : Iv (uσ σ) (sσ σ) μ ν) (IH : ∀ (σ : Nat) (v : Bool) (μ ν : Mm), σ < 5 → (v = vσ σ ∨ σ = 0) → Iv (uσ σ) (sσ σ) μ ν → Gq z (kC B σ v ν) 4 Q (Cs σ) 1457 μ (lvL B v b (Int32.ofNat j)) []) : Gq z (kC B σ v ν) 4 Q (Cs σ) 1177 μ (lvL B v b (Int32.ofNat j)) [] := by
  obtain ⟨r, μ', ν', f1, f2, hI'⟩ := hS.2.2.2.2.2.2.2.2.2.2.2.2.2.2.2.2.2.2.2.2.2.2.2.2.2.2.2.2.2.2.2.2.1 (xs (j + 1)) (xs (j + 2)) (xs (j + 3)) _ _ _ _ hI
  exact w_year hg hX hb hj hL hs hv (Cs_le σ hs) f1 f2 (nz_of hS.1 hs hI') (IH _ _ _ _ hs hv hI')
theorem k_tell {z : Zx} {B : Bx} {b L j F : Nat} {xs : Nat → Int32} {Q : State → Prop} {Iv : Bool → Bool → Mm → Mm → Prop} (hS : Steps F Iv) (hg : Og z B code 4 "RopeDanceLaw" (some .boolean) 13 TL) (hX : va_X b L xs (zs z) (zs z).heap) (hb : b < (zs z).heap.size) (hj : j + 6 ≤ L) (hL : L ≤ 3072) {σ : Nat} {v : Bool} {μ ν : Mm} (hs : σ < 5) (hv : v = vσ σ ∨ σ = 0) (hI : Iv (uσ σ) (sσ σ) μ ν) (IH : ∀ (σ : Nat) (v : Bool) (μ ν : Mm), σ < 5 → (v = vσ σ ∨ σ = 0) → Iv (uσ σ) (sσ σ) μ ν → Gq z (kC B σ v ν) 4 Q (Cs σ) 1457 μ (lvL B v b (Int32.ofNat j)) []) : Gq z (kC B σ v ν) 4 Q (Cs σ) 1220 μ (lvL B v b (Int32.ofNat j)) [] := by
  obtain ⟨r, μ', ν', f1, f2, hI'⟩ := hS.2.2.2.2.2.2.2.2.2.2.2.2.2.2.2.2.2.2.2.2.2.2.2.2.2.2.2.2.2.2.2.2.2.1 (xs (j + 1)) (xs (j + 2)) (nz01 (xs (j + 3))) _ _ _ _ hI
  exact w_tell hg hX hb hj hL hs hv (Cs_le σ hs) f1 f2 (nz_of hS.1 hs hI') (IH _ _ _ _ hs hv hI')
theorem k_forget {z : Zx} {B : Bx} {b L j F : Nat} {xs : Nat → Int32} {Q : State → Prop} {Iv : Bool → Bool → Mm → Mm → Prop} (hS : Steps F Iv) (hg : Og z B code 4 "RopeDanceLaw" (some .boolean) 13 TL) (hX : va_X b L xs (zs z) (zs z).heap) (hb : b < (zs z).heap.size) (hj : j + 6 ≤ L) (hL : L ≤ 3072) {σ : Nat} {v : Bool} {μ ν : Mm} (hs : σ < 5) (hv : v = vσ σ ∨ σ = 0) (hI : Iv (uσ σ) (sσ σ) μ ν) (IH : ∀ (σ : Nat) (v : Bool) (μ ν : Mm), σ < 5 → (v = vσ σ ∨ σ = 0) → Iv (uσ σ) (sσ σ) μ ν → Gq z (kC B σ v ν) 4 Q (Cs σ) 1457 μ (lvL B v b (Int32.ofNat j)) []) : Gq z (kC B σ v ν) 4 Q (Cs σ) 1279 μ (lvL B v b (Int32.ofNat j)) [] := by
  obtain ⟨r, μ', ν', f1, f2, hI'⟩ := hS.2.2.2.2.2.2.2.2.2.2.2.2.2.2.2.2.2.2.2.2.2.2.2.2.2.2.2.2.2.2.2.2.2.2.1 _ _ _ _ hI
  exact w_forget hg hX hb hj hL hs hv (Cs_le σ hs) f1 f2 (nz_of hS.1 hs hI') (IH _ _ _ _ hs hv hI')
theorem k_rows {z : Zx} {B : Bx} {b L j F : Nat} {xs : Nat → Int32} {Q : State → Prop} {Iv : Bool → Bool → Mm → Mm → Prop} (hS : Steps F Iv) (hg : Og z B code 4 "RopeDanceLaw" (some .boolean) 13 TL) (hX : va_X b L xs (zs z) (zs z).heap) (hb : b < (zs z).heap.size) (hj : j + 6 ≤ L) (hL : L ≤ 3072) {σ : Nat} {v : Bool} {μ ν : Mm} (hs : σ < 5) (hv : v = vσ σ ∨ σ = 0) (hI : Iv (uσ σ) (sσ σ) μ ν) (IH : ∀ (σ : Nat) (v : Bool) (μ ν : Mm), σ < 5 → (v = vσ σ ∨ σ = 0) → Iv (uσ σ) (sσ σ) μ ν → Gq z (kC B σ v ν) 4 Q (Cs σ) 1457 μ (lvL B v b (Int32.ofNat j)) []) : Gq z (kC B σ v ν) 4 Q (Cs σ) 1292 μ (lvL B v b (Int32.ofNat j)) [] := by
  obtain ⟨r, μ', ν', f1, f2, hI'⟩ := hS.2.2.2.2.2.2.2.2.2.2.2.2.2.2.2.2.2.2.2.2.2.2.2.2.2.2.2.2.2.2.2.2.2.2.2.1 (xs (j + 1)) (xs (j + 2)) (xs (j + 3)) (xs (j + 4)) _ _ _ _ hI
  exact w_rows hg hX hb hj hL hs hv (Cs_le σ hs) f1 f2 (nz_of hS.1 hs hI') (IH _ _ _ _ hs hv hI')
theorem k_listen {z : Zx} {B : Bx} {b L j F : Nat} {xs : Nat → Int32} {Q : State → Prop} {Iv : Bool → Bool → Mm → Mm → Prop} (hS : Steps F Iv) (hg : Og z B code 4 "RopeDanceLaw" (some .boolean) 13 TL) (hX : va_X b L xs (zs z) (zs z).heap) (hb : b < (zs z).heap.size) (hj : j + 6 ≤ L) (hL : L ≤ 3072) {σ : Nat} {v : Bool} {μ ν : Mm} (hs : σ < 5) (hv : v = vσ σ ∨ σ = 0) (hI : Iv (uσ σ) (sσ σ) μ ν) (IH : ∀ (σ : Nat) (v : Bool) (μ ν : Mm), σ < 5 → (v = vσ σ ∨ σ = 0) → Iv (uσ σ) (sσ σ) μ ν → Gq z (kC B σ v ν) 4 Q (Cs σ) 1457 μ (lvL B v b (Int32.ofNat j)) []) : Gq z (kC B σ v ν) 4 Q (Cs σ) 1345 μ (lvL B v b (Int32.ofNat j)) [] := by
  obtain ⟨r, μ', ν', f1, f2, hI'⟩ := hS.2.2.2.2.2.2.2.2.2.2.2.2.2.2.2.2.2.2.2.2.2.2.2.2.2.2.2.2.2.2.2.2.2.2.2.2.1 (xs (j + 1)) (xs (j + 2)) (xs (j + 3)) _ _ _ _ hI
  exact w_listen hg hX hb hj hL hs hv (Cs_le σ hs) f1 f2 (nz_of hS.1 hs hI') (IH _ _ _ _ hs hv hI')
theorem k_hold {z : Zx} {B : Bx} {b L j F : Nat} {xs : Nat → Int32} {Q : State → Prop} {Iv : Bool → Bool → Mm → Mm → Prop} (hS : Steps F Iv) (hg : Og z B code 4 "RopeDanceLaw" (some .boolean) 13 TL) (hX : va_X b L xs (zs z) (zs z).heap) (hb : b < (zs z).heap.size) (hj : j + 6 ≤ L) (hL : L ≤ 3072) {σ : Nat} {v : Bool} {μ ν : Mm} (hs : σ < 5) (hv : v = vσ σ ∨ σ = 0) (hI : Iv (uσ σ) (sσ σ) μ ν) (IH : ∀ (σ : Nat) (v : Bool) (μ ν : Mm), σ < 5 → (v = vσ σ ∨ σ = 0) → Iv (uσ σ) (sσ σ) μ ν → Gq z (kC B σ v ν) 4 Q (Cs σ) 1457 μ (lvL B v b (Int32.ofNat j)) []) : Gq z (kC B σ v ν) 4 Q (Cs σ) 1388 μ (lvL B v b (Int32.ofNat j)) [] := by
  obtain ⟨r, μ', ν', f1, f2, hI'⟩ := hS.2.2.2.2.2.2.2.2.2.2.2.2.2.2.2.2.2.2.2.2.2.2.2.2.2.2.2.2.2.2.2.2.2.2.2.2.2.1 (xs (j + 1)) _ _ _ _ hI
  exact w_hold hg hX hb hj hL hs hv (Cs_le σ hs) f1 f2 (nz_of hS.1 hs hI') (IH _ _ _ _ hs hv hI')
theorem k_restore {z : Zx} {B : Bx} {b L j F : Nat} {xs : Nat → Int32} {Q : State → Prop} {Iv : Bool → Bool → Mm → Mm → Prop} (hS : Steps F Iv) (hg : Og z B code 4 "RopeDanceLaw" (some .boolean) 13 TL) (hX : va_X b L xs (zs z) (zs z).heap) (hb : b < (zs z).heap.size) (hj : j + 6 ≤ L) (hL : L ≤ 3072) {σ : Nat} {v : Bool} {μ ν : Mm} (hs : σ < 5) (hv : v = vσ σ ∨ σ = 0) (hI : Iv (uσ σ) (sσ σ) μ ν) (IH : ∀ (σ : Nat) (v : Bool) (μ ν : Mm), σ < 5 → (v = vσ σ ∨ σ = 0) → Iv (uσ σ) (sσ σ) μ ν → Gq z (kC B σ v ν) 4 Q (Cs σ) 1457 μ (lvL B v b (Int32.ofNat j)) []) : Gq z (kC B σ v ν) 4 Q (Cs σ) 1411 μ (lvL B v b (Int32.ofNat j)) [] := by
  obtain ⟨r, μ', ν', f1, f2, hI'⟩ := hS.2.2.2.2.2.2.2.2.2.2.2.2.2.2.2.2.2.2.2.2.2.2.2.2.2.2.2.2.2.2.2.2.2.2.2.2.2.2.1 (xs (j + 1)) _ _ _ _ hI
  exact w_restore hg hX hb hj hL hs hv (Cs_le σ hs) f1 f2 (nz_of hS.1 hs hI') (IH _ _ _ _ hs hv hI')
theorem k_count {z : Zx} {B : Bx} {b L j F : Nat} {xs : Nat → Int32} {Q : State → Prop} {Iv : Bool → Bool → Mm → Mm → Prop} (hS : Steps F Iv) (hg : Og z B code 4 "RopeDanceLaw" (some .boolean) 13 TL) (hX : va_X b L xs (zs z) (zs z).heap) (hb : b < (zs z).heap.size) (hj : j + 6 ≤ L) (hL : L ≤ 3072) {σ : Nat} {v : Bool} {μ ν : Mm} (hs : σ < 5) (hv : v = vσ σ ∨ σ = 0) (hI : Iv (uσ σ) (sσ σ) μ ν) (IH : ∀ (σ : Nat) (v : Bool) (μ ν : Mm), σ < 5 → (v = vσ σ ∨ σ = 0) → Iv (uσ σ) (sσ σ) μ ν → Gq z (kC B σ v ν) 4 Q (Cs σ) 1457 μ (lvL B v b (Int32.ofNat j)) []) : Gq z (kC B σ v ν) 4 Q (Cs σ) 1434 μ (lvL B v b (Int32.ofNat j)) [] := by
  obtain ⟨r, μ', ν', f1, f2, hI'⟩ := hS.2.2.2.2.2.2.2.2.2.2.2.2.2.2.2.2.2.2.2.2.2.2.2.2.2.2.2.2.2.2.2.2.2.2.2.2.2.2.2 (xs (j + 1)) _ _ _ _ hI
  exact w_count hg hX hb hj hL hs hv (Cs_le σ hs) f1 f2 (nz_of hS.1 hs hI') (IH _ _ _ _ hs hv hI')
set_option maxRecDepth 20000 in
set_option maxHeartbeats 4000000 in
theorem k_switch {z : Zx} {B : Bx} {b L j F : Nat} {xs : Nat → Int32} {Q : State → Prop} {Iv : Bool → Bool → Mm → Mm → Prop} (hS : Steps F Iv) (hg : Og z B code 4 "RopeDanceLaw" (some .boolean) 13 TL) (hX : va_X b L xs (zs z) (zs z).heap) (hb : b < (zs z).heap.size) (hj : j + 6 ≤ L) (hL : L ≤ 3072) {σ : Nat} {v : Bool} {μ ν : Mm} (hs : σ < 5) (hv : v = vσ σ ∨ σ = 0) (hI : Iv (uσ σ) (sσ σ) μ ν) (IH : ∀ (σ : Nat) (v : Bool) (μ ν : Mm), σ < 5 → (v = vσ σ ∨ σ = 0) → Iv (uσ σ) (sσ σ) μ ν → Gq z (kC B σ v ν) 4 Q (Cs σ) 1457 μ (lvL B v b (Int32.ofNat j)) []) : Gq z (kC B σ v ν) 4 Q (Cs σ) 27 μ (lvL B v b (Int32.ofNat j)) [] := by
  have h0 := hg.2.2.2.2.2.2.2.2.2.1
  refine r_aloadn (okC hg hs hv) 3 rfl rfl dL_27 ?_
  refine r_iloadn (okC hg hs hv) 0 rfl rfl dL_28 ?_
  have q := ix_k (j := j) (k := 0) (by omega)
  have q0 : Int32.ofNat j + Int32.ofNat 0 = Int32.ofNat j := by rw [← Int32.ofNat_add]; rfl
  rw [q0] at q
  refine l_xald (okC hg hs hv) hX (nFC h0 hb) q.1 q.2 (by omega) dL_29 ?_
  refine r_bipush (v := 63) (okC hg hs hv) (by decide) dL_30 ?_
  refine r_iand (okC hg hs hv) dL_32 ?_
  obtain ⟨n, hn, e⟩ := and63 (xs (j + 0))
  rw [e]
  rcases (show n = 0 ∨ n = 1 ∨ n = 2 ∨ n = 3 ∨ n = 4 ∨ n = 5 ∨ n = 6 ∨ n = 7 ∨ n = 8 ∨ n = 9 ∨ n = 10 ∨ n = 11 ∨ n = 12 ∨ n = 13 ∨ n = 14 ∨ n = 15 ∨ n = 16 ∨ n = 17 ∨ n = 18 ∨ n = 19 ∨ n = 20 ∨ n = 21 ∨ n = 22 ∨ n = 23 ∨ n = 24 ∨ n = 25 ∨ n = 26 ∨ n = 27 ∨ n = 28 ∨ n = 29 ∨ n = 30 ∨ n = 31 ∨ n = 32 ∨ n = 33 ∨ n = 34 ∨ n = 35 ∨ n = 36 ∨ n = 37 ∨ n = 38 ∨ 39 ≤ n by omega) with rfl | rfl | rfl | rfl | rfl | rfl | rfl | rfl | rfl | rfl | rfl | rfl | rfl | rfl | rfl | rfl | rfl | rfl | rfl | rfl | rfl | rfl | rfl | rfl | rfl | rfl | rfl | rfl | rfl | rfl | rfl | rfl | rfl | rfl | rfl | rfl | rfl | rfl | rfl | hn2
  · exact r_tableIn (okC hg hs hv) (off := 171) (tgt := 204) (by decide) (by decide) rfl (by decide) dL_33 (k_feed hS hg hX hb hj hL hs hv hI IH)
  · exact r_tableIn (okC hg hs hv) (off := 234) (tgt := 267) (by decide) (by decide) rfl (by decide) dL_33 (k_back hS hg hX hb hj hL hs hv hI IH)
  · exact r_tableIn (okC hg hs hv) (off := 257) (tgt := 290) (by decide) (by decide) rfl (by decide) dL_33 (k_read hS hg hX hb hj hL hs hv hI IH)
  · exact r_tableIn (okC hg hs hv) (off := 270) (tgt := 303) (by decide) (by decide) rfl (by decide) dL_33 (k_place hS hg hX hb hj hL hs hv hI IH)
  · exact r_tableIn (okC hg hs hv) (off := 283) (tgt := 316) (by decide) (by decide) rfl (by decide) dL_33 (k_square hS hg hX hb hj hL hs hv hI IH)
  · exact r_tableIn (okC hg hs hv) (off := 316) (tgt := 349) (by decide) (by decide) rfl (by decide) dL_33 (k_figure hS hg hX hb hj hL hs hv hI IH)
  · exact r_tableIn (okC hg hs hv) (off := 349) (tgt := 382) (by decide) (by decide) rfl (by decide) dL_33 (k_tires hS hg hX hb hj hL hs hv hI IH)
  · exact r_tableIn (okC hg hs hv) (off := 382) (tgt := 415) (by decide) (by decide) rfl (by decide) dL_33 (k_after hS hg hX hb hj hL hs hv hI IH)
  · exact r_tableIn (okC hg hs hv) (off := 425) (tgt := 458) (by decide) (by decide) rfl (by decide) dL_33 (k_call hS hg hX hb hj hL hs hv hI IH)
  · exact r_tableIn (okC hg hs hv) (off := 458) (tgt := 491) (by decide) (by decide) rfl (by decide) dL_33 (k_move hS hg hX hb hj hL hs hv hI IH)
  · exact r_tableIn (okC hg hs hv) (off := 501) (tgt := 534) (by decide) (by decide) rfl (by decide) dL_33 (k_let hS hg hX hb hj hL hs hv hI IH)
  · exact r_tableIn (okC hg hs hv) (off := 524) (tgt := 557) (by decide) (by decide) rfl (by decide) dL_33 (k_minutes hS hg hX hb hj hL hs hv hI IH)
  · exact r_tableIn (okC hg hs hv) (off := 547) (tgt := 580) (by decide) (by decide) rfl (by decide) dL_33 (k_undo hS hg hX hb hj hL hs hv hI IH)
  · exact r_tableIn (okC hg hs hv) (off := 560) (tgt := 593) (by decide) (by decide) rfl (by decide) dL_33 (k_least hS hg hX hb hj hL hs hv hI IH)
  · exact r_tableIn (okC hg hs hv) (off := 583) (tgt := 616) (by decide) (by decide) rfl (by decide) dL_33 (k_ways hS hg hX hb hj hL hs hv hI IH)
  · exact r_tableIn (okC hg hs hv) (off := 606) (tgt := 639) (by decide) (by decide) rfl (by decide) dL_33 (k_step hS hg hX hb hj hL hs hv hI IH)
  · exact r_tableIn (okC hg hs hv) (off := 639) (tgt := 672) (by decide) (by decide) rfl (by decide) dL_33 (k_plan hS hg hX hb hj hL hs hv hI IH)
  · exact r_tableIn (okC hg hs hv) (off := 672) (tgt := 705) (by decide) (by decide) rfl (by decide) dL_33 (k_bring hS hg hX hb hj hL hs hv hI IH)
  · exact r_tableIn (okC hg hs hv) (off := 715) (tgt := 748) (by decide) (by decide) rfl (by decide) dL_33 (k_reach hS hg hX hb hj hL hs hv hI IH)
  · exact r_tableIn (okC hg hs hv) (off := 738) (tgt := 771) (by decide) (by decide) rfl (by decide) dL_33 (k_alike hS hg hX hb hj hL hs hv hI IH)
  · exact r_tableIn (okC hg hs hv) (off := 771) (tgt := 804) (by decide) (by decide) rfl (by decide) dL_33 (k_closed hS hg hX hb hj hL hs hv hI IH)
  · exact r_tableIn (okC hg hs hv) (off := 804) (tgt := 837) (by decide) (by decide) rfl (by decide) dL_33 (k_colours hS hg hX hb hj hL hs hv hI IH)
  · exact r_tableIn (okC hg hs hv) (off := 837) (tgt := 870) (by decide) (by decide) rfl (by decide) dL_33 (k_joined hS hg hX hb hj hL hs hv hI IH)
  · exact r_tableIn (okC hg hs hv) (off := 870) (tgt := 903) (by decide) (by decide) rfl (by decide) dL_33 (k_order hS hg hX hb hj hL hs hv hI IH)
  · exact r_tableIn (okC hg hs hv) (off := 893) (tgt := 926) (by decide) (by decide) rfl (by decide) dL_33 (k_round hS hg hX hb hj hL hs hv hI IH)
  · exact r_tableIn (okC hg hs hv) (off := 926) (tgt := 959) (by decide) (by decide) rfl (by decide) dL_33 (k_power hS hg hX hb hj hL hs hv hI IH)
  · exact r_tableIn (okC hg hs hv) (off := 979) (tgt := 1012) (by decide) (by decide) rfl (by decide) dL_33 (k_stays hS hg hX hb hj hL hs hv hI IH)
  · exact r_tableIn (okC hg hs hv) (off := 1012) (tgt := 1045) (by decide) (by decide) rfl (by decide) dL_33 (k_mind hS hg hX hb hj hL hs hv hI IH)
  · exact r_tableIn (okC hg hs hv) (off := 1045) (tgt := 1078) (by decide) (by decide) rfl (by decide) dL_33 (k_reverse hS hg hX hb hj hL hs hv hI IH)
  · exact r_tableIn (okC hg hs hv) (off := 1068) (tgt := 1101) (by decide) (by decide) rfl (by decide) dL_33 (k_hands hS hg hX hb hj hL hs hv hI IH)
  · exact r_tableIn (okC hg hs hv) (off := 1101) (tgt := 1134) (by decide) (by decide) rfl (by decide) dL_33 (k_then hS hg hX hb hj hL hs hv hI IH)
  · exact r_tableIn (okC hg hs hv) (off := 1144) (tgt := 1177) (by decide) (by decide) rfl (by decide) dL_33 (k_year hS hg hX hb hj hL hs hv hI IH)
  · exact r_tableIn (okC hg hs hv) (off := 1187) (tgt := 1220) (by decide) (by decide) rfl (by decide) dL_33 (k_tell hS hg hX hb hj hL hs hv hI IH)
  · exact r_tableIn (okC hg hs hv) (off := 1246) (tgt := 1279) (by decide) (by decide) rfl (by decide) dL_33 (k_forget hS hg hX hb hj hL hs hv hI IH)
  · exact r_tableIn (okC hg hs hv) (off := 1259) (tgt := 1292) (by decide) (by decide) rfl (by decide) dL_33 (k_rows hS hg hX hb hj hL hs hv hI IH)
  · exact r_tableIn (okC hg hs hv) (off := 1312) (tgt := 1345) (by decide) (by decide) rfl (by decide) dL_33 (k_listen hS hg hX hb hj hL hs hv hI IH)
  · exact r_tableIn (okC hg hs hv) (off := 1355) (tgt := 1388) (by decide) (by decide) rfl (by decide) dL_33 (k_hold hS hg hX hb hj hL hs hv hI IH)
  · exact r_tableIn (okC hg hs hv) (off := 1378) (tgt := 1411) (by decide) (by decide) rfl (by decide) dL_33 (k_restore hS hg hX hb hj hL hs hv hI IH)
  · exact r_tableIn (okC hg hs hv) (off := 1401) (tgt := 1434) (by decide) (by decide) rfl (by decide) dL_33 (k_count hS hg hX hb hj hL hs hv hI IH)
  · have e2 : (Int32.ofNat n).toInt = (n : Int) := Int32.toInt_ofNat_of_lt (by omega)
    exact r_tableOut (okC hg hs hv) (tgt := 1457) (by rw [e2]; omega) (by decide) dL_33 (IH σ v μ ν hs hv hI)
theorem k_loop {z : Zx} {B : Bx} {b L F : Nat} {xs : Nat → Int32} {Q : State → Prop} {Iv : Bool → Bool → Mm → Mm → Prop} (hS : Steps F Iv) (hg : Og z B code 4 "RopeDanceLaw" (some .boolean) 13 TL) (hX : va_X b L xs (zs z) (zs z).heap) (hb : b < (zs z).heap.size) (hL : L ≤ 3072)
    (hend : ∀ (σ : Nat) (v : Bool) (μ ν : Mm) (j : Nat), σ < 5 → Gq z (kC B σ v ν) 4 Q (Cs σ) 1463 μ (lvL B v b (Int32.ofNat j)) []) : ∀ (n t : Nat), t + n = 513 → 6 * t ≤ L → ∀ (σ : Nat) (v : Bool) (μ ν : Mm), σ < 5 → (v = vσ σ ∨ σ = 0) → Iv (uσ σ) (sσ σ) μ ν → Gq z (kC B σ v ν) 4 Q (Cs σ) 18 μ (lvL B v b (Int32.ofNat (6 * t))) []
  | 0, t, h1, h2 => by omega
  | n + 1, t, h1, h2 => by
    intro σ v μ ν hs hv hI
    have h0 := hg.2.2.2.2.2.2.2.2.2.1
    refine r_iloadn (okC hg hs hv) 0 rfl rfl dL_18 ?_
    refine r_aloadn (okC hg hs hv) 3 rfl rfl dL_19 ?_
    refine l_xlen (okC hg hs hv) hX (nFC h0 hb) (n := Int32.ofNat L) rfl dL_20 ?_
    refine r_bipush (v := 6) (okC hg hs hv) (by decide) dL_21 ?_
    refine r_isub (okC hg hs hv) dL_23 ?_
    have e1 : (Int32.ofNat L).toInt = (L : Int) := Int32.toInt_ofNat_of_lt (by omega)
    have e2 : (Int32.ofNat (6 * t)).toInt = ((6 * t : Nat) : Int) := Int32.toInt_ofNat_of_lt (by omega)
    have e6 : (6 : Int32).toInt = 6 := by decide
    have e3 : (Int32.ofNat L - 6).toInt = (L : Int) - 6 := by
      rw [Int32.toInt_sub, e1, e6, Int.bmod_def]
      split <;> omega
    refine r_icgt (okC hg hs hv) (tgt := 1463) (by decide) dL_24 (fun q => hend σ v μ ν _ hs) (fun q => ?_)
    rw [Int32.lt_iff_toInt_lt, e3, e2] at q
    refine k_switch hS hg hX hb (by omega) hL hs hv hI (fun σ v μ ν hs hv hI => ?_)
    refine r_iinc (v := Int32.ofNat (6 * (t + 1))) (lv' := lvL B v b (Int32.ofNat (6 * (t + 1)))) (okC hg hs hv) 0 rfl ?_ (by decide) rfl dL_1457 ?_
    · show Int32.ofNat (6 * t) + Int32.ofInt 6 = Int32.ofNat (6 * (t + 1))
      rw [show Int32.ofInt 6 = Int32.ofNat 6 from rfl, ← Int32.ofNat_add]
      rfl
    · exact r_goto (okC hg hs hv) (tgt := 18) (by decide) dL_1460 (k_loop hS hg hX hb hL hend n (t + 1) (by omega) (by omega) σ v μ ν hs hv hI)
