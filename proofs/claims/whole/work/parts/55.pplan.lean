theorem t300 : enc ((0, 1) : Tg) = 300 := by decide
theorem tV01 : tV ((0, 1) : Tg) := by
  refine ⟨by decide, by decide, by decide, by decide, by unfold gcd1; decide, by decide⟩
theorem o_reach {F : Nat} (hF : 100000 ≤ F) (a : Int32) : mkS Inv (fX11_reach F a) (fX11_reach_n F a) (fX11_reach_a F a) (fX12_reach F a) := fun u μ ν => by
  have go : ∀ (s : Bool), Inv u s μ ν → (∃ i, fX11_squareAt F a μ = some (some i, μ) ∧ ∃ r μ' ν', (if s = true then fX11_searchFrom F i μ = some μ' else fX11_searchFrom_a F i μ = some μ') ∧ gi μ' 4 0 0 = r ∧ fX12_reach F a ν = some (r, ν') ∧ Inv u true μ' ν') ∨ (fX11_squareAt F a μ = some (none, μ) ∧ fX12_reach F a ν = some (-1, ν)) := fun s q => by
    obtain ⟨T, S, X, e, q1, q2, q3⟩ := id q
    obtain ⟨a1, a2, a3, a4, a5, a6, a7, a8, _⟩ := id q1
    have h4 := a3.1
    unfold fX12_reach
    rcases p_sq (F := F) q1 a with ⟨i, hi, rfl, hc, hr⟩ | ⟨hc, hr⟩
    · left
      refine ⟨i, hc, ?_⟩
      obtain ⟨t1, t2, t3, t4, t5, _⟩ := IE_sq q2 hi h4
      have hv : tV (tgC μ i) := by rw [t1]; exact t4.1
      obtain ⟨μ', r1, r2, r3, r4⟩ := p_sf2 (F := F) (i := i) hF q1 q2 q3 (ag_rfl (P := fun c i _ => c = 5 ∧ i = 4)) hi
      obtain ⟨ν', s1, s2, s3⟩ := p_goT (F := F) hF a2 a3 a6 a8 hv
      rw [hr, bd2_s, if_neg n1_0, if_pos ((nn_inb (by omega)).mpr (by omega)), nn_cl (by omega), t5, ← t1, s1, bd1_s, s3.1]
      exact ⟨_, μ', ν', r1, r2.1, rfl, r4 ν' (ag_of s2 Pg_SR)⟩
    · right
      refine ⟨hc, ?_⟩
      rw [hr, bd2_s, if_pos rfl]
  constructor
  · intro q
    rcases go true q with ⟨i, hc, r, μ', ν', h1, h2, h3, h4⟩ | ⟨hc, h3⟩
    · rw [if_pos rfl] at h1
      unfold fX11_reach
      rw [hc, bd2_s, oel_s, h1, bd1_s, h2]
      exact ⟨r, μ', ν', rfl, h3, h4⟩
    · unfold fX11_reach
      rw [hc, bd2_s, oel_n]
      exact ⟨_, μ, ν, rfl, h3, q⟩
  · intro q
    rcases go false q with ⟨i, hc, r, μ', ν', h1, h2, h3, h4⟩ | ⟨hc, h3⟩
    · rw [if_neg (by decide)] at h1
      right
      unfold fX11_reach_a
      rw [hc, bd2_s, oel_s, h1, bd1_s, h2]
      exact ⟨r, μ', ν', rfl, h3, h4⟩
    · left
      unfold fX11_reach_n
      rw [hc, bd2_s, oel_n]
      exact ⟨_, μ, ν, rfl, h3, q⟩
theorem o_plan {F : Nat} (hF : 100000 ≤ F) (a b : Int32) : mkS Inv (fX11_plan F a b) (fX11_plan_n F a b) (fX11_plan_a F a b) (fX12_plan F a b) := fun u μ ν => by
  have go : ∀ (s : Bool), Inv u s μ ν → (-1 ≤ b.toInt ∧ ∃ i, fX11_squareAt F a μ = some (some i, μ) ∧ ∃ r μ' ν', (if s = true then fX11_figuresTo F i 4 b (pt μ 4 (0, 1)) = some (r, μ') else fX11_figuresTo_a F i 4 b (pt μ 4 (0, 1)) = some (r, μ')) ∧ fX12_plan F a b ν = some (r, ν') ∧ Inv u true μ' ν') ∨ ((fX11_squareAt F a μ = some (none, μ) ∨ (b.toInt < -1 ∧ ∃ i, fX11_squareAt F a μ = some (some i, μ))) ∧ fX12_plan F a b ν = some (-1, ν)) := fun s q => by
    obtain ⟨T, S, X, e, q1, q2, q3⟩ := id q
    obtain ⟨a1, a2, a3, a4, a5, a6, a7, a8, _⟩ := id q1
    have h4 := a3.1
    unfold fX12_plan
    rcases p_sq (F := F) q1 a with ⟨i, hi, rfl, hc, hr⟩ | ⟨hc, hr⟩
    · rw [hr, bd2_s, if_neg n1_0]
      by_cases w : b.toInt < -1
      · right
        rw [if_pos (show b < -1 from i_lt.mpr w)]
        exact ⟨Or.inr ⟨w, i, hc⟩, rfl⟩
      left
      refine ⟨by omega, i, hc, ?_⟩
      rw [if_neg (show ¬ b < -1 from fun y => w (i_lt.mp y))]
      obtain ⟨t1, t2, t3, t4, t5, _⟩ := IE_sq q2 hi h4
      have hv : tV (tgC μ i) := by rw [t1]; exact t4.1
      obtain ⟨μ', r1, r2, r3, r4⟩ := p_sf2 (F := F) (i := i) (μp := pt μ 4 (0, 1)) hF q1 q2 q3 (ag_pt (fun j => ⟨rfl, rfl⟩)) hi
      have g0 : gi (pt μ 4 (0, 1)) 5 4 0 = ((0, 1) : Tg).1 := congrArg Prod.fst (tgC_pt (μ := μ) (i := 4) (t := (0, 1)))
      have g1 : gi (pt μ 4 (0, 1)) 5 4 1 = ((0, 1) : Tg).2 := congrArg Prod.snd (tgC_pt (μ := μ) (i := 4) (t := (0, 1)))
      rw [if_pos ((nn_inb (by omega)).mpr (by omega)), nn_cl (by omega), t5, ← t1, ← t300]
      by_cases z : s = true
      · rw [if_pos z] at r1
        obtain ⟨r, ν', x, y, y2⟩ := p_plan (F := F) (b := b) (i := 4) (sf := fX11_searchFrom F i) hF a2 a3 a6 a8 hv tV01 (by omega) g0 g1 r1 r2 r3
        rw [y, bd2_s]
        refine ⟨r, μ', ν', ?_, rfl, r4 ν' (ag_of y2 Pg_SR)⟩
        rw [if_pos z]
        exact x
      · rw [if_neg z] at r1
        obtain ⟨r, ν', x, y, y2⟩ := p_plan (F := F) (b := b) (i := 4) (sf := fX11_searchFrom_a F i) hF a2 a3 a6 a8 hv tV01 (by omega) g0 g1 r1 r2 r3
        rw [y, bd2_s]
        refine ⟨r, μ', ν', ?_, rfl, r4 ν' (ag_of y2 Pg_SR)⟩
        rw [if_neg z]
        exact x
    · right
      rw [hr, bd2_s, if_pos rfl]
      exact ⟨Or.inl hc, rfl⟩
  have lg : fX5_letGo F 4 μ = some (pt μ 4 (0, 1)) := rfl
  constructor
  · intro q
    unfold fX11_plan
    rcases go true q with ⟨hb, i, hc, r, μ', ν', h1, h3, h4⟩ | ⟨hc | ⟨hb, i, hc⟩, h3⟩
    · rw [if_pos rfl] at h1
      rw [hc, bd2_s, oel_s, if_pos (show -1 ≤ b from i_le.mpr hb), lg, bd1_s, h1, bd2_s]
      exact ⟨r, μ', ν', rfl, h3, h4⟩
    · rw [hc, bd2_s, oel_n]
      exact ⟨_, μ, ν, rfl, h3, q⟩
    · rw [hc, bd2_s, oel_s, if_neg (show ¬ -1 ≤ b from fun y => by have : (-1 : Int32).toInt ≤ b.toInt := i_le.mp y; rw [show (-1 : Int32).toInt = -1 from rfl] at this; omega)]
      exact ⟨_, μ, ν, rfl, h3, q⟩
  · intro q
    unfold fX11_plan_a fX11_plan_n
    rcases go false q with ⟨hb, i, hc, r, μ', ν', h1, h3, h4⟩ | ⟨hc | ⟨hb, i, hc⟩, h3⟩
    · rw [if_neg (by decide)] at h1
      right
      rw [hc, bd2_s, oel_s, if_pos (show -1 ≤ b from i_le.mpr hb), lg, bd1_s, h1, bd2_s]
      exact ⟨r, μ', ν', rfl, h3, h4⟩
    · left
      rw [hc, bd2_s, oel_n]
      exact ⟨_, μ, ν, rfl, h3, q⟩
    · left
      rw [hc, bd2_s, oel_s, if_neg (show ¬ -1 ≤ b from fun y => by have : (-1 : Int32).toInt ≤ b.toInt := i_le.mp y; rw [show (-1 : Int32).toInt = -1 from rfl] at this; omega)]
      exact ⟨_, μ, ν, rfl, h3, q⟩
theorem o_bring {F : Nat} (hF : 100000 ≤ F) (a c b : Int32) : mkS Inv (fX11_bring F a c b) (fX11_bring_n F a c b) (fX11_bring_a F a c b) (fX12_bring F a c b) := fun u μ ν => by
  have go : ∀ (s : Bool), Inv u s μ ν → (-1 ≤ b.toInt ∧ a ≠ c ∧ ∃ i j, fX11_squareAt F a μ = some (some i, μ) ∧ fX11_squareAt F c μ = some (some j, μ) ∧ ∃ r μ' ν', (if s = true then fX11_figuresTo F i j b μ = some (r, μ') else fX11_figuresTo_a F i j b μ = some (r, μ')) ∧ fX12_bring F a c b ν = some (r, ν') ∧ Inv u true μ' ν') ∨ (((fX11_squareAt F a μ = some (none, μ) ∧ ∃ o, fX11_squareAt F c μ = some (o, μ)) ∨ (∃ i, fX11_squareAt F a μ = some (some i, μ) ∧ (fX11_squareAt F c μ = some (none, μ) ∨ ∃ j, fX11_squareAt F c μ = some (some j, μ) ∧ (a = c ∨ b.toInt < -1)))) ∧ fX12_bring F a c b ν = some (-1, ν)) := fun s q => by
    obtain ⟨T, S, X, e, q1, q2, q3⟩ := id q
    obtain ⟨a1, a2, a3, a4, a5, a6, a7, a8, _⟩ := id q1
    have h4 := a3.1
    unfold fX12_bring
    rcases p_sq (F := F) q1 a with ⟨i, hi, ha, hc, hr⟩ | ⟨hc, hr⟩
    · rw [hr, bd2_s, if_neg n1_0]
      rcases p_sq (F := F) q1 c with ⟨j, hj, ha', gc, gr⟩ | ⟨gc, gr⟩
      · rw [gr, bd2_s, if_neg n1_0]
        by_cases w0 : a = c
        · right
          rw [if_pos w0]
          exact ⟨Or.inr ⟨i, hc, Or.inr ⟨j, gc, Or.inl w0⟩⟩, rfl⟩
        rw [if_neg w0]
        by_cases w : b.toInt < -1
        · right
          rw [if_pos (show b < -1 from i_lt.mpr w)]
          exact ⟨Or.inr ⟨i, hc, Or.inr ⟨j, gc, Or.inr w⟩⟩, rfl⟩
        left
        refine ⟨by omega, w0, i, j, hc, gc, ?_⟩
        rw [if_neg (show ¬ b < -1 from fun y => w (i_lt.mp y))]
        obtain ⟨t1, t2, t3, t4, t5, _⟩ := IE_sq q2 hi h4
        have hv : tV (tgC μ i) := by rw [t1]; exact t4.1
        obtain ⟨t1', t2', t3', t4', t5', _⟩ := IE_sq q2 hj h4
        have hv' : tV (tgC μ j) := by rw [t1']; exact t4'.1
        obtain ⟨μ', r1, r2, r3, r4⟩ := p_sf2 (F := F) (i := i) hF q1 q2 q3 (ag_rfl (P := fun c i _ => c = 5 ∧ i = 4)) hi
        rw [ha, ha', if_pos ((nn_inb (by omega)).mpr (by omega)), if_pos ((nn_inb (by omega)).mpr (by omega)), nn_cl (by omega), nn_cl (by omega), t5, t5', ← t1, ← t1']
        by_cases z : s = true
        · rw [if_pos z] at r1
          obtain ⟨r, ν', x, y, y2⟩ := p_plan (F := F) (b := b) (i := j) (sf := fX11_searchFrom F i) hF a2 a3 a6 a8 hv hv' (by omega) rfl rfl r1 r2 r3
          rw [y, bd2_s]
          refine ⟨r, μ', ν', ?_, rfl, r4 ν' (ag_of y2 Pg_SR)⟩
          rw [if_pos z]
          exact x
        · rw [if_neg z] at r1
          obtain ⟨r, ν', x, y, y2⟩ := p_plan (F := F) (b := b) (i := j) (sf := fX11_searchFrom_a F i) hF a2 a3 a6 a8 hv hv' (by omega) rfl rfl r1 r2 r3
          rw [y, bd2_s]
          refine ⟨r, μ', ν', ?_, rfl, r4 ν' (ag_of y2 Pg_SR)⟩
          rw [if_neg z]
          exact x
      · right
        rw [gr, bd2_s, if_pos rfl]
        exact ⟨Or.inr ⟨i, hc, Or.inl gc⟩, rfl⟩
    · right
      rw [hr, bd2_s, if_pos rfl]
      rcases p_sq (F := F) q1 c with ⟨j, hj, _, gc, gr⟩ | ⟨gc, gr⟩
      · exact ⟨Or.inl ⟨hc, _, gc⟩, rfl⟩
      · exact ⟨Or.inl ⟨hc, _, gc⟩, rfl⟩
  have nb : b.toInt < -1 → ¬ -1 ≤ b := fun h y => by
    have : (-1 : Int32).toInt ≤ b.toInt := i_le.mp y
    rw [show (-1 : Int32).toInt = -1 from rfl] at this
    omega
  constructor
  · intro q
    unfold fX11_bring
    rcases go true q with ⟨hb, hne, i, j, hc, gc, r, μ', ν', h1, h3, h4⟩ | ⟨⟨hc, o, gc⟩ | ⟨i, hc, gc | ⟨j, gc, w | w⟩⟩, h3⟩
    · rw [if_pos rfl] at h1
      rw [hc, bd2_s, oel_s, gc, bd2_s, oel_s, if_neg hne, if_pos (show -1 ≤ b from i_le.mpr hb), h1, bd2_s]
      exact ⟨r, μ', ν', rfl, h3, h4⟩
    · rw [hc, bd2_s, oel_n, gc, bd2_s]
      refine ⟨_, μ, ν, ?_, h3, q⟩
      cases o <;> rfl
    · rw [hc, bd2_s, oel_s, gc, bd2_s, oel_n]
      exact ⟨_, μ, ν, rfl, h3, q⟩
    · rw [hc, bd2_s, oel_s, gc, bd2_s, oel_s, if_pos w]
      exact ⟨_, μ, ν, rfl, h3, q⟩
    · rw [hc, bd2_s, oel_s, gc, bd2_s, oel_s, if_neg (nb w)]
      refine ⟨_, μ, ν, ?_, h3, q⟩
      split <;> rfl
  · intro q
    unfold fX11_bring_a fX11_bring_n
    rcases go false q with ⟨hb, hne, i, j, hc, gc, r, μ', ν', h1, h3, h4⟩ | ⟨⟨hc, o, gc⟩ | ⟨i, hc, gc | ⟨j, gc, w | w⟩⟩, h3⟩
    · rw [if_neg (by decide)] at h1
      right
      rw [hc, bd2_s, oel_s, gc, bd2_s, oel_s, if_neg hne, if_pos (show -1 ≤ b from i_le.mpr hb), h1, bd2_s]
      exact ⟨r, μ', ν', rfl, h3, h4⟩
    · left
      rw [hc, bd2_s, oel_n, gc, bd2_s]
      refine ⟨_, μ, ν, ?_, h3, q⟩
      cases o <;> rfl
    · left
      rw [hc, bd2_s, oel_s, gc, bd2_s, oel_n]
      exact ⟨_, μ, ν, rfl, h3, q⟩
    · left
      rw [hc, bd2_s, oel_s, gc, bd2_s, oel_s, if_pos w]
      exact ⟨_, μ, ν, rfl, h3, q⟩
    · left
      rw [hc, bd2_s, oel_s, gc, bd2_s, oel_s, if_neg (nb w)]
      refine ⟨_, μ, ν, ?_, h3, q⟩
      split <;> rfl
