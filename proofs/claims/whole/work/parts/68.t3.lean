/-! text: signs; the row of tokens -/
theorem here_c {v w : VV} (h18 : w.1 18 = v.1 18) (h19 : w.1 19 = v.1 19) (h2 : w.2 = v.2) : f_X12_here w = f_X12_here v := by
  unfold f_X12_here; rw [h18, h19, h2]
theorem sg_in (v : VV) {B : Nat} (h : B = 59 ∨ B = 40 ∨ B = 41 ∨ B = 43 ∨ B = 45 ∨ B = 42 ∨ B = 47 ∨ B = 60 ∨ B = 61 ∨ B = 62) : f_X12_sign v (nI B) = f_X12_sign_b76 (si v 19 (v.1 19 + 1)) (nI B) 3 := by
  unfold f_X12_sign f_X12_sign_b71
  rcases h with rfl | rfl | rfl | rfl | rfl | rfl | rfl | rfl | rfl | rfl
  · rw [if_pos (show nI 59 = 59 from rfl)]
  · rw [if_neg (show ¬ nI 40 = 59 by decide), if_pos (show nI 40 = 40 from rfl)]
  · rw [if_neg (show ¬ nI 41 = 59 by decide), if_neg (show ¬ nI 41 = 40 by decide), if_pos (show nI 41 = 41 from rfl)]
  · rw [if_neg (show ¬ nI 43 = 59 by decide), if_neg (show ¬ nI 43 = 40 by decide), if_neg (show ¬ nI 43 = 41 by decide), if_pos (show nI 43 = 43 from rfl)]
  · rw [if_neg (show ¬ nI 45 = 59 by decide), if_neg (show ¬ nI 45 = 40 by decide), if_neg (show ¬ nI 45 = 41 by decide), if_neg (show ¬ nI 45 = 43 by decide), if_pos (show nI 45 = 45 from rfl)]
  · rw [if_neg (show ¬ nI 42 = 59 by decide), if_neg (show ¬ nI 42 = 40 by decide), if_neg (show ¬ nI 42 = 41 by decide), if_neg (show ¬ nI 42 = 43 by decide), if_neg (show ¬ nI 42 = 45 by decide), if_pos (show nI 42 = 42 from rfl)]
  · rw [if_neg (show ¬ nI 47 = 59 by decide), if_neg (show ¬ nI 47 = 40 by decide), if_neg (show ¬ nI 47 = 41 by decide), if_neg (show ¬ nI 47 = 43 by decide), if_neg (show ¬ nI 47 = 45 by decide), if_neg (show ¬ nI 47 = 42 by decide), if_pos (show nI 47 = 47 from rfl)]
  · rw [if_neg (show ¬ nI 60 = 59 by decide), if_neg (show ¬ nI 60 = 40 by decide), if_neg (show ¬ nI 60 = 41 by decide), if_neg (show ¬ nI 60 = 43 by decide), if_neg (show ¬ nI 60 = 45 by decide), if_neg (show ¬ nI 60 = 42 by decide), if_neg (show ¬ nI 60 = 47 by decide), if_pos (show nI 60 = 60 from rfl)]
  · rw [if_neg (show ¬ nI 61 = 59 by decide), if_neg (show ¬ nI 61 = 40 by decide), if_neg (show ¬ nI 61 = 41 by decide), if_neg (show ¬ nI 61 = 43 by decide), if_neg (show ¬ nI 61 = 45 by decide), if_neg (show ¬ nI 61 = 42 by decide), if_neg (show ¬ nI 61 = 47 by decide), if_neg (show ¬ nI 61 = 60 by decide), if_pos (show nI 61 = 61 from rfl)]
  · rw [if_neg (show ¬ nI 62 = 59 by decide), if_neg (show ¬ nI 62 = 40 by decide), if_neg (show ¬ nI 62 = 41 by decide), if_neg (show ¬ nI 62 = 43 by decide), if_neg (show ¬ nI 62 = 45 by decide), if_neg (show ¬ nI 62 = 42 by decide), if_neg (show ¬ nI 62 = 47 by decide), if_neg (show ¬ nI 62 = 60 by decide), if_neg (show ¬ nI 62 = 61 by decide), if_pos (show nI 62 = 62 from rfl)]
theorem sg_out (v : VV) {B : Nat} (hB : B < 256) (h : ¬ (B = 59 ∨ B = 40 ∨ B = 41 ∨ B = 43 ∨ B = 45 ∨ B = 42 ∨ B = 47 ∨ B = 60 ∨ B = 61 ∨ B = 62)) : f_X12_sign v (nI B) = f_X12_sign_b76 (si v 19 (v.1 19 + 1)) (nI B) 5 := by
  unfold f_X12_sign
  rw [if_neg (show ¬ nI (B) = (59 : Int32) from fun hq9 => absurd ((nI_eq (a := B) (b := 59) (by omega) (by omega)).mp hq9) (by omega)), if_neg (show ¬ nI (B) = (40 : Int32) from fun hq9 => absurd ((nI_eq (a := B) (b := 40) (by omega) (by omega)).mp hq9) (by omega)), if_neg (show ¬ nI (B) = (41 : Int32) from fun hq9 => absurd ((nI_eq (a := B) (b := 41) (by omega) (by omega)).mp hq9) (by omega)), if_neg (show ¬ nI (B) = (43 : Int32) from fun hq9 => absurd ((nI_eq (a := B) (b := 43) (by omega) (by omega)).mp hq9) (by omega)), if_neg (show ¬ nI (B) = (45 : Int32) from fun hq9 => absurd ((nI_eq (a := B) (b := 45) (by omega) (by omega)).mp hq9) (by omega)), if_neg (show ¬ nI (B) = (42 : Int32) from fun hq9 => absurd ((nI_eq (a := B) (b := 42) (by omega) (by omega)).mp hq9) (by omega)), if_neg (show ¬ nI (B) = (47 : Int32) from fun hq9 => absurd ((nI_eq (a := B) (b := 47) (by omega) (by omega)).mp hq9) (by omega)), if_neg (show ¬ nI (B) = (60 : Int32) from fun hq9 => absurd ((nI_eq (a := B) (b := 60) (by omega) (by omega)).mp hq9) (by omega)), if_neg (show ¬ nI (B) = (61 : Int32) from fun hq9 => absurd ((nI_eq (a := B) (b := 61) (by omega) (by omega)).mp hq9) (by omega)), if_neg (show ¬ nI (B) = (62 : Int32) from fun hq9 => absurd ((nI_eq (a := B) (b := 62) (by omega) (by omega)).mp hq9) (by omega))]
theorem sg_pl (v : VV) {B : Nat} (z0 : Int32) (hB : B < 256) (h60 : B ≠ 60) (h62 : B ≠ 62) : f_X12_sign_b76 v (nI B) z0 = some (si (si v 21 z0) 22 (nI B)) := by
  unfold f_X12_sign_b76 f_X12_sign_b106 f_X12_sign_b128 f_X12_sign_b150
  rw [if_neg (show ¬ nI (B) = (60 : Int32) from fun hq9 => absurd ((nI_eq (a := B) (b := 60) (by omega) (by omega)).mp hq9) (by omega)), if_neg (show ¬ nI (B) = (60 : Int32) from fun hq9 => absurd ((nI_eq (a := B) (b := 60) (by omega) (by omega)).mp hq9) (by omega)), if_neg (show ¬ nI (B) = (62 : Int32) from fun hq9 => absurd ((nI_eq (a := B) (b := 62) (by omega) (by omega)).mp hq9) (by omega))]
  exact if_pos (show nI B < 256 from nI_lt (b := 256) hB (by omega))
theorem b150_ge {v : VV} (h : ¬ v.1 22 < 256) : f_X12_sign_b150 v = some (si v 19 (v.1 19 + 1)) := by unfold f_X12_sign_b150; rw [if_neg h]
theorem b150_lt {v : VV} (h : v.1 22 < 256) : f_X12_sign_b150 v = some v := by unfold f_X12_sign_b150; rw [if_pos h]
theorem l256 : ¬ (256 : Int32) < 256 := by decide
theorem l257 : ¬ (257 : Int32) < 256 := by decide
theorem l258 : ¬ (258 : Int32) < 256 := by decide
theorem l60 : (60 : Int32) < 256 := by decide
theorem l62 : (62 : Int32) < 256 := by decide
theorem b106_60 (v : VV) {y : Int32} (hy : f_X12_here v = some y) : f_X12_sign_b106 v 60 = if y = 62 then f_X12_sign_b150 (si v 22 257) else f_X12_sign_b150 v := by
  unfold f_X12_sign_b106 f_X12_sign_b128
  rw [if_pos (show (60 : Int32) = 60 from rfl), hy, pu_bnd, if_neg (show ¬ (60 : Int32) = 62 by decide), if_neg (show ¬ (60 : Int32) = 62 by decide)]
theorem sg_60 (v : VV) {y : Int32} (hy : f_X12_here v = some y) : f_X12_sign_b76 v 60 3 = if y = 61 then some (si (si (si (si v 21 3) 22 60) 22 256) 19 (v.1 19 + 1)) else if y = 62 then some (si (si (si (si v 21 3) 22 60) 22 257) 19 (v.1 19 + 1)) else some (si (si v 21 3) 22 60) := by
  have h1 : f_X12_here (si (si v 21 3) 22 60) = some y := (here_c (v := v) rfl rfl rfl).trans hy
  have h2 : f_X12_here (si (si (si v 21 3) 22 60) 22 256) = some y := (here_c (v := v) rfl rfl rfl).trans hy
  unfold f_X12_sign_b76
  rw [if_pos (show (60 : Int32) = 60 from rfl), h1, pu_bnd, b106_60 _ h1, b106_60 _ h2]
  by_cases c1 : y = 61
  · rw [if_pos c1, if_pos c1, if_neg (show ¬ y = 62 by rw [c1]; decide)]
    exact b150_ge (v := si (si (si v 21 3) 22 60) 22 256) l256
  · rw [if_neg c1, if_neg c1]
    by_cases c2 : y = 62
    · rw [if_pos c2, if_pos c2]
      exact b150_ge (v := si (si (si v 21 3) 22 60) 22 257) l257
    · rw [if_neg c2, if_neg c2]
      exact b150_lt (v := si (si v 21 3) 22 60) l60
theorem sg_62 (v : VV) {y : Int32} (hy : f_X12_here v = some y) : f_X12_sign_b76 v 62 3 = if y = 61 then some (si (si (si (si v 21 3) 22 62) 22 258) 19 (v.1 19 + 1)) else some (si (si v 21 3) 22 62) := by
  have h1 : f_X12_here (si (si v 21 3) 22 62) = some y := (here_c (v := v) rfl rfl rfl).trans hy
  unfold f_X12_sign_b76 f_X12_sign_b106 f_X12_sign_b128
  rw [if_neg (show ¬ (62 : Int32) = 60 by decide), if_neg (show ¬ (62 : Int32) = 60 by decide), if_pos (show (62 : Int32) = 62 from rfl), h1, pu_bnd]
  by_cases c1 : y = 61
  · rw [if_pos c1, if_pos c1]
    exact b150_ge (v := si (si (si v 21 3) 22 62) 22 258) l258
  · rw [if_neg c1, if_neg c1]
    exact b150_lt (v := si (si v 21 3) 22 62) l62
theorem TF3 {v : VV} (a b c : Int32) : TF v (si (si (si v 19 a) 21 b) 22 c) := (TF_si 19 a (by omega)).trans ((TF_si 21 b (by omega)).trans (TF_si 22 c (by omega)))
/-- a sign, or what is none -/
theorem signT (N : Nat) {n p c : Nat} {b : Nat → Nat} {K : VV} (z : Int32) (hb : HB n b) (hK : K.1 3 = nI c) (hc : c ≤ 700) (hp : p < n) (hz : (¬ p + 1 < n ∧ z = 0) ∨ (p + 1 < n ∧ z = tb (b (p + 1)))) :
    ∃ k e K', f_X9_takeSign K (tb (b p)) z (nI p) = some (nI e, K') ∧ p < e ∧ e ≤ n ∧ PUT K c k (nI p) 0 K' ∧ ¬ k = 0 ∧ ∀ v, RT n b v → v.1 19 = nI p → ∃ v', f_X12_sign v (nI (b p)) = some v' ∧ tokR k 0 (v'.1 21) (v'.1 22) ∧ v'.1 19 = nI e ∧ v'.1 20 = v.1 20 ∧ TF v v' := by
  have hn := hb.1
  have hbp := hb.2 p hp
  -- the sign behind it
  have hz2 : ∀ q, q = 61 ∨ q = 62 → ((z = nI q ↔ p + 1 < n ∧ b (p + 1) = q) ∧ ((if p + 1 < n then nI (b (p + 1)) else -1) = nI q ↔ p + 1 < n ∧ b (p + 1) = q)) := by
    intro q hq
    rcases hz with ⟨h1, h2⟩ | ⟨h1, h2⟩
    · rw [h2, if_neg h1]
      constructor
      · constructor
        · intro h; exact absurd ((nI_eq (a := 0) (by omega) (by omega)).mp h) (by omega)
        · intro h; exact absurd h.1 h1
      · constructor
        · intro h; exact absurd (show nI q < 0 by rw [← h]; decide) (nI_pos (by omega))
        · intro h; exact absurd h.1 h1
    · have hb1 := hb.2 (p + 1) h1
      rw [h2, if_pos h1, tb_eq hb1 (by omega), nI_eq (by omega) (by omega)]
      exact ⟨⟨fun h => ⟨h1, h⟩, fun h => h.2⟩, ⟨fun h => ⟨h1, h⟩, fun h => h.2⟩⟩
  have hh : ∀ v, RT n b v → v.1 19 = nI p → f_X12_here (si v 19 (v.1 19 + 1)) = some (if p + 1 < n then nI (b (p + 1)) else -1) := by
    intro v hv h19
    have hr := RT_TF hv (TF_si 19 (v.1 19 + 1) (by omega))
    exact hereR hb hr (by show v.1 19 + 1 = _; rw [h19, nI_1]) (by omega)
  -- single signs
  have sing : ∀ (B : Nat) (k : Int32), b p = B → B < 128 → B ≠ 60 → B ≠ 62 → (B = 59 ∨ B = 40 ∨ B = 41 ∨ B = 43 ∨ B = 45 ∨ B = 42 ∨ B = 47 ∨ B = 60 ∨ B = 61 ∨ B = 62) → f_X9_singleSign (nI B) = some k → ¬ k = 1 → ¬ k = 0 → ¬ k = 44 → ¬ k = 45 → sgR k (nI B) → ∃ k e K', f_X9_takeSign K (tb (b p)) z (nI p) = some (nI e, K') ∧ p < e ∧ e ≤ n ∧ PUT K c k (nI p) 0 K' ∧ ¬ k = 0 ∧ ∀ v, RT n b v → v.1 19 = nI p → ∃ v', f_X12_sign v (nI (b p)) = some v' ∧ tokR k 0 (v'.1 21) (v'.1 22) ∧ v'.1 19 = nI e ∧ v'.1 20 = v.1 20 ∧ TF v v' := by
    intro B k eB hB h60 h62 hin hs hk1 hk0 hk4 hk5 hsg
    obtain ⟨K', k1, k2⟩ := putR hc hK k (nI p) 0
    refine ⟨k, p + 1, K', ?_, by omega, by omega, k2, hk0, fun v hv h19 => ?_⟩
    · unfold f_X9_takeSign
      rw [eB, tb_lo hB, hs, pu_bnd, if_neg hk1, k1, pu_bnd, nI_1]
    · rw [eB, sg_in v hin, sg_pl _ 3 (by omega) h60 h62, h19, nI_1]
      exact ⟨_, rfl, Or.inr (Or.inr (Or.inr (Or.inr (Or.inl ⟨rfl, hsg, hk4, hk5⟩)))), rfl, rfl, TF3 _ _ _⟩
  by_cases h59 : b p = 59
  · exact sing 59 4 h59 (by omega) (by omega) (by omega) (by omega) rfl (by decide) (by decide) (by decide) (by decide) (Or.inl ⟨rfl, rfl⟩)
  by_cases h40 : b p = 40
  · exact sing 40 5 h40 (by omega) (by omega) (by omega) (by omega) rfl (by decide) (by decide) (by decide) (by decide) (Or.inr (Or.inl ⟨rfl, rfl⟩))
  by_cases h41 : b p = 41
  · exact sing 41 6 h41 (by omega) (by omega) (by omega) (by omega) rfl (by decide) (by decide) (by decide) (by decide) (Or.inr (Or.inr (Or.inl ⟨rfl, rfl⟩)))
  by_cases h43 : b p = 43
  · exact sing 43 7 h43 (by omega) (by omega) (by omega) (by omega) rfl (by decide) (by decide) (by decide) (by decide) (Or.inr (Or.inr (Or.inr (Or.inl ⟨rfl, rfl⟩))))
  by_cases h45 : b p = 45
  · exact sing 45 8 h45 (by omega) (by omega) (by omega) (by omega) rfl (by decide) (by decide) (by decide) (by decide) (Or.inr (Or.inr (Or.inr (Or.inr (Or.inl ⟨rfl, rfl⟩)))))
  by_cases h42 : b p = 42
  · exact sing 42 9 h42 (by omega) (by omega) (by omega) (by omega) rfl (by decide) (by decide) (by decide) (by decide) (Or.inr (Or.inr (Or.inr (Or.inr (Or.inr (Or.inl ⟨rfl, rfl⟩))))))
  by_cases h47 : b p = 47
  · exact sing 47 10 h47 (by omega) (by omega) (by omega) (by omega) rfl (by decide) (by decide) (by decide) (by decide) (Or.inr (Or.inr (Or.inr (Or.inr (Or.inr (Or.inr (Or.inl ⟨rfl, rfl⟩)))))))
  by_cases h61 : b p = 61
  · exact sing 61 13 h61 (by omega) (by omega) (by omega) (by omega) rfl (by decide) (by decide) (by decide) (by decide) (Or.inr (Or.inr (Or.inr (Or.inr (Or.inr (Or.inr (Or.inr (Or.inr (Or.inr (Or.inl ⟨rfl, rfl⟩))))))))))
  by_cases h60 : b p = 60
  · by_cases c1 : p + 1 < n ∧ b (p + 1) = 61
    · obtain ⟨K', k1, k2⟩ := putR hc hK 12 (nI p) 0
      refine ⟨12, p + 2, K', ?_, by omega, by omega, k2, by decide, fun v hv h19 => ?_⟩
      · unfold f_X9_takeSign f_X9_pairSign
        rw [h60, tb_lo (by omega), show f_X9_singleSign (nI 60) = some 1 from rfl, pu_bnd, if_pos rfl, if_pos (show nI 60 = 60 from rfl), if_pos (show z = 61 from (hz2 61 (Or.inl rfl)).1.mpr c1), pu_bnd, if_neg (by decide), k1, pu_bnd]
        exact congrArg (fun q => some (q, K')) (nI_add p 2)
      · rw [h60, sg_in v (by omega), show nI 60 = 60 from rfl, sg_60 _ (hh v hv h19), if_pos (show (if p + 1 < n then nI (b (p + 1)) else -1) = 61 from (hz2 61 (Or.inl rfl)).2.mpr c1), h19, nI_1]
        exact ⟨_, rfl, Or.inr (Or.inr (Or.inr (Or.inr (Or.inl ⟨rfl, Or.inr (Or.inr (Or.inr (Or.inr (Or.inr (Or.inr (Or.inr (Or.inr (Or.inl ⟨rfl, rfl⟩)))))))), by decide, by decide⟩)))), by show nI (p + 1) + 1 = _; rw [nI_1], rfl, (TF3 _ _ _).trans ((TF_si 22 _ (by omega)).trans (TF_si 19 _ (by omega)))⟩
    by_cases c2 : p + 1 < n ∧ b (p + 1) = 62
    · obtain ⟨K', k1, k2⟩ := putR hc hK 14 (nI p) 0
      refine ⟨14, p + 2, K', ?_, by omega, by omega, k2, by decide, fun v hv h19 => ?_⟩
      · unfold f_X9_takeSign f_X9_pairSign
        rw [h60, tb_lo (by omega), show f_X9_singleSign (nI 60) = some 1 from rfl, pu_bnd, if_pos rfl, if_pos (show nI 60 = 60 from rfl), if_neg (show ¬ z = 61 from fun h => c1 ((hz2 61 (Or.inl rfl)).1.mp h)), if_pos (show z = 62 from (hz2 62 (Or.inr rfl)).1.mpr c2), pu_bnd, if_neg (by decide), k1, pu_bnd]
        exact congrArg (fun q => some (q, K')) (nI_add p 2)
      · rw [h60, sg_in v (by omega), show nI 60 = 60 from rfl, sg_60 _ (hh v hv h19), if_neg (show ¬ (if p + 1 < n then nI (b (p + 1)) else -1) = 61 from fun h => c1 ((hz2 61 (Or.inl rfl)).2.mp h)), if_pos (show (if p + 1 < n then nI (b (p + 1)) else -1) = 62 from (hz2 62 (Or.inr rfl)).2.mpr c2), h19, nI_1]
        exact ⟨_, rfl, Or.inr (Or.inr (Or.inr (Or.inr (Or.inl ⟨rfl, Or.inr (Or.inr (Or.inr (Or.inr (Or.inr (Or.inr (Or.inr (Or.inr (Or.inr (Or.inr (Or.inl ⟨rfl, rfl⟩)))))))))), by decide, by decide⟩)))), by show nI (p + 1) + 1 = _; rw [nI_1], rfl, (TF3 _ _ _).trans ((TF_si 22 _ (by omega)).trans (TF_si 19 _ (by omega)))⟩
    · obtain ⟨K', k1, k2⟩ := putR hc hK 11 (nI p) 0
      refine ⟨11, p + 1, K', ?_, by omega, by omega, k2, by decide, fun v hv h19 => ?_⟩
      · unfold f_X9_takeSign f_X9_pairSign f_X9_takeSign_b73
        rw [h60, tb_lo (by omega), show f_X9_singleSign (nI 60) = some 1 from rfl, pu_bnd, if_pos rfl, if_pos (show nI 60 = 60 from rfl), if_neg (show ¬ z = 61 from fun h => c1 ((hz2 61 (Or.inl rfl)).1.mp h)), if_neg (show ¬ z = 62 from fun h => c2 ((hz2 62 (Or.inr rfl)).1.mp h)), pu_bnd, if_pos rfl, if_pos (show nI 60 = 60 from rfl), k1, pu_bnd, nI_1]
      · rw [h60, sg_in v (by omega), show nI 60 = 60 from rfl, sg_60 _ (hh v hv h19), if_neg (show ¬ (if p + 1 < n then nI (b (p + 1)) else -1) = 61 from fun h => c1 ((hz2 61 (Or.inl rfl)).2.mp h)), if_neg (show ¬ (if p + 1 < n then nI (b (p + 1)) else -1) = 62 from fun h => c2 ((hz2 62 (Or.inr rfl)).2.mp h)), h19, nI_1]
        exact ⟨_, rfl, Or.inr (Or.inr (Or.inr (Or.inr (Or.inl ⟨rfl, Or.inr (Or.inr (Or.inr (Or.inr (Or.inr (Or.inr (Or.inr (Or.inl ⟨rfl, rfl⟩))))))), by decide, by decide⟩)))), rfl, rfl, TF3 _ _ _⟩
  by_cases h62 : b p = 62
  · by_cases c1 : p + 1 < n ∧ b (p + 1) = 61
    · obtain ⟨K', k1, k2⟩ := putR hc hK 15 (nI p) 0
      refine ⟨15, p + 2, K', ?_, by omega, by omega, k2, by decide, fun v hv h19 => ?_⟩
      · unfold f_X9_takeSign f_X9_pairSign
        rw [h62, tb_lo (by omega), show f_X9_singleSign (nI 62) = some 1 from rfl, pu_bnd, if_pos rfl, if_neg (show ¬ nI 62 = 60 by decide), if_pos (show nI 62 = 62 from rfl), if_pos (show z = 61 from (hz2 61 (Or.inl rfl)).1.mpr c1), pu_bnd, if_neg (by decide), k1, pu_bnd]
        exact congrArg (fun q => some (q, K')) (nI_add p 2)
      · rw [h62, sg_in v (by omega), show nI 62 = 62 from rfl, sg_62 _ (hh v hv h19), if_pos (show (if p + 1 < n then nI (b (p + 1)) else -1) = 61 from (hz2 61 (Or.inl rfl)).2.mpr c1), h19, nI_1]
        exact ⟨_, rfl, Or.inr (Or.inr (Or.inr (Or.inr (Or.inl ⟨rfl, Or.inr (Or.inr (Or.inr (Or.inr (Or.inr (Or.inr (Or.inr (Or.inr (Or.inr (Or.inr (Or.inr (Or.inl ⟨rfl, rfl⟩))))))))))), by decide, by decide⟩)))), by show nI (p + 1) + 1 = _; rw [nI_1], rfl, (TF3 _ _ _).trans ((TF_si 22 _ (by omega)).trans (TF_si 19 _ (by omega)))⟩
    · obtain ⟨K', k1, k2⟩ := putR hc hK 16 (nI p) 0
      refine ⟨16, p + 1, K', ?_, by omega, by omega, k2, by decide, fun v hv h19 => ?_⟩
      · unfold f_X9_takeSign f_X9_pairSign f_X9_takeSign_b73
        rw [h62, tb_lo (by omega), show f_X9_singleSign (nI 62) = some 1 from rfl, pu_bnd, if_pos rfl, if_neg (show ¬ nI 62 = 60 by decide), if_pos (show nI 62 = 62 from rfl), if_neg (show ¬ z = 61 from fun h => c1 ((hz2 61 (Or.inl rfl)).1.mp h)), pu_bnd, if_pos rfl, if_neg (show ¬ nI 62 = 60 by decide), if_pos (show nI 62 = 62 from rfl), k1, pu_bnd, nI_1]
      · rw [h62, sg_in v (by omega), show nI 62 = 62 from rfl, sg_62 _ (hh v hv h19), if_neg (show ¬ (if p + 1 < n then nI (b (p + 1)) else -1) = 61 from fun h => c1 ((hz2 61 (Or.inl rfl)).2.mp h)), h19, nI_1]
        exact ⟨_, rfl, Or.inr (Or.inr (Or.inr (Or.inr (Or.inl ⟨rfl, Or.inr (Or.inr (Or.inr (Or.inr (Or.inr (Or.inr (Or.inr (Or.inr (Or.inr (Or.inr (Or.inr (Or.inr (Or.inl ⟨rfl, rfl⟩)))))))))))), by decide, by decide⟩)))), rfl, rfl, TF3 _ _ _⟩
  · -- none
    have ne : ∀ q, q < 128 → b p ≠ q → ¬ tb (b p) = nI q := fun q hq h e => h ((tb_eq hbp hq).mp e)
    obtain ⟨K', k1, k2⟩ := putR hc hK 1 (nI p) 0
    refine ⟨1, p + 1, K', ?_, by omega, by omega, k2, by decide, fun v hv h19 => ?_⟩
    · unfold f_X9_takeSign f_X9_singleSign f_X9_pairSign f_X9_takeSign_b73
      rw [if_neg (show ¬ tb (b p) = 40 from ne 40 (by omega) h40), if_neg (show ¬ tb (b p) = 41 from ne 41 (by omega) h41), if_neg (show ¬ tb (b p) = 42 from ne 42 (by omega) h42), if_neg (show ¬ tb (b p) = 43 from ne 43 (by omega) h43), if_neg (show ¬ tb (b p) = 45 from ne 45 (by omega) h45), if_neg (show ¬ tb (b p) = 47 from ne 47 (by omega) h47), if_neg (show ¬ tb (b p) = 59 from ne 59 (by omega) h59), if_neg (show ¬ tb (b p) = 61 from ne 61 (by omega) h61), pu_bnd, if_pos rfl, if_neg (show ¬ tb (b p) = 60 from ne 60 (by omega) h60), if_neg (show ¬ tb (b p) = 62 from ne 62 (by omega) h62), pu_bnd, if_pos rfl, if_neg (show ¬ tb (b p) = 60 from ne 60 (by omega) h60), if_neg (show ¬ tb (b p) = 62 from ne 62 (by omega) h62), k1, pu_bnd, nI_1]
    · rw [sg_out v hbp (by omega), sg_pl _ 5 hbp h60 h62, h19, nI_1]
      exact ⟨_, rfl, Or.inr (Or.inl ⟨rfl, rfl⟩), rfl, rfl, TF3 _ _ _⟩
theorem si_si (v : VV) (k : Nat) (x y : Int32) : si (si v k x) k y = si v k y := by
  refine Prod.ext ?_ rfl
  funext q
  show (if q = k then y else if q = k then x else v.1 q) = if q = k then y else v.1 q
  by_cases c : q = k
  · rw [if_pos c, if_pos c]
  · rw [if_neg c, if_neg c, if_neg c]
theorem si_id (v : VV) (k : Nat) : si v k (v.1 k) = v := by
  refine Prod.ext ?_ rfl
  funext q
  show (if q = k then v.1 k else v.1 q) = v.1 q
  by_cases c : q = k
  · rw [if_pos c, c]
  · rw [if_neg c]
theorem jmaxN {a c : Nat} (ha : a < 2 ^ 31) (hc : c < 2 ^ 31) : jmax (nI a) (nI c) = nI (if a < c then c else a) := by
  unfold jmax
  by_cases h : a < c
  · rw [if_pos (nI_lt h hc), if_pos h]
  · rw [if_neg (nI_nlt (by omega) ha), if_neg h]
/-- one token: the class's turn, and what the reference reads there -/
theorem tokOne (N : Nat) (hN : 2000 < N) {n p c : Nat} {b : Nat → Nat} {T : Nat → Int32} {K : VV} (x4 : Int32) (hb : HB n b) (hT : CT n b T) (hK : K.1 3 = nI c) (hc : c ≤ 700) (hp : p < n) (hbl : b p ≠ 32 ∧ b p ≠ 10) :
    ∃ k vl e K', f_X9_split_s18 N K T (nI n) x4 (nI p) = some (.inl (nI e, nI e, K')) ∧ p < e ∧ e ≤ n ∧ PUT K c k (nI p) vl K' ∧ ¬ k = 0 ∧ ∀ v, RT n b v → v.1 19 = nI p → ∃ v', f_X12_token_s0 N v = some (.inr v') ∧ TF v v' ∧ v'.1 19 = nI e ∧ v'.1 20 = nI p ∧ tokR k vl (v'.1 21) (v'.1 22) := by
  have hn := hb.1
  have hbp := hb.2 p hp
  have ne : ∀ q, q < 128 → b p ≠ q → ¬ tb (b p) = nI q := fun q hq h e => h ((tb_eq hbp hq).mp e)
  have jm : ∀ e, p < e → e ≤ n → jmax (nI p + 1) (nI e) = nI e := by
    intro e h1 h2
    rw [nI_1, jmaxN (by omega) (by omega)]
    by_cases h3 : p + 1 < e
    · rw [if_pos h3]
    · rw [if_neg h3, show p + 1 = e by omega]
  -- the reference, up to the kind
  have rf0 : ∀ v, RT n b v → v.1 19 = nI p → ∀ o, (bnd (f_X12_isSmall (nI (b p))) (fun q7 => if q7 = 0 then bnd (f_X12_isDigit (nI (b p))) (fun q9 => if q9 = 0 then bnd (f_X12_sign (si v 20 (nI p)) (nI (b p))) (fun q11 => some q11) else itr (fun q : VV => f_X12_token_s162 N q) N (si (si (si v 20 (nI p)) 21 2) 22 0)) else itr (fun q : VV => f_X12_token_s64 N q) N (si v 20 (nI p)))) = some o → f_X12_token_s0 N v = some (.inr o) := by
    intro v hv h19 o ho
    have h1 := hereR hb hv h19 (by omega)
    rw [if_pos hp] at h1
    have h2 : f_X12_here (si v 20 (nI p)) = some (nI (b p)) := (here_c (v := v) rfl rfl rfl).trans h1
    unfold f_X12_token_s0
    simp only [h1, h19, h2, pu_bnd, if_neg (show ¬ nI (b p) = (10 : Int32) from fun hq9 => absurd ((nI_eq (a := b p) (b := 10) (by omega) (by omega)).mp hq9) (by omega)), if_neg (show ¬ nI (b p) = (32 : Int32) from fun hq9 => absurd ((nI_eq (a := b p) (b := 32) (by omega) (by omega)).mp hq9) (by omega)), if_neg (show ¬ nI (b p) = -1 from fun h => nI_pos (show b p < 2 ^ 31 by omega) (by rw [h]; decide))]
    rw [ho, pu_inrO]
  by_cases cd : dgB (b p) = true
  · obtain ⟨e, e1, e2, e3, e4⟩ := scan_ex dgB b n _ p rfl (by omega)
    have hpe : p < e := by
      rcases Nat.lt_or_ge p e with h | h
      · exact h
      · have : e = p := by omega
        rw [this, cd] at e4; exact absurd (e4 hp) (by decide)
    have hd := dg_iff.mp cd
    have one : ∃ x K', f_X9_takeNumber N K T (nI n) (nI p) = some (nI e, K') ∧ PUT K c 2 (nI p) (nI x) K' ∧ ∀ v, RT n b v → v.1 19 = nI p → v.1 22 = 0 → ∃ y v', itr (fun q : VV => f_X12_token_s162 N q) N v = some v' ∧ numR x y ∧ v'.1 19 = nI e ∧ v'.1 22 = nI y ∧ (∀ k, k ≠ 19 → k ≠ 22 → v'.1 k = v.1 k) ∧ v'.2 = v.2 := by
      obtain ⟨x, y, K', v', q1, q2, _, q4, _⟩ := numT (v := (fun q => if q = 18 then nI n else if q = 19 then nI p else 0, (fun _ i => nI (b i)), fun _ _ => 0)) N hN hb hT hK hc e2 e1 e3 e4 ⟨rfl, fun i _ => rfl⟩ rfl rfl
      refine ⟨x, K', q1, q2, fun v hv h19 h22 => ?_⟩
      obtain ⟨x', y', K'', v'', p1, p2, p3, p4, p5⟩ := numT N hN hb hT hK hc e2 e1 e3 e4 hv h19 h22
      have eK : K'' = K' := by
        have := p1.symm.trans q1
        injection this with this
        injection this
      have ex : x' = x := by
        have a1 := p2.2.1.2.2
        rw [eK] at a1
        have a3 := p4.1
        have a5 := q4.1
        exact (nI_eq (by omega) (by omega)).mp (a1.symm.trans q2.2.1.2.2)
      subst ex
      exact ⟨y', v'', p3, p4, p5⟩
    obtain ⟨x, K', q1, q2, q3⟩ := one
    refine ⟨2, nI x, e, K', ?_, hpe, e2, q2, by decide, fun v hv h19 => ?_⟩
    · unfold f_X9_split_s18 f_X9_split_b114
      rw [if_neg (nI_ge hp (by omega)), pu_gin (show p < 700 by omega) (show 700 < 2 ^ 31 by omega), nI_clamp (show p < 2 ^ 31 by omega), hT p hp, digC hbp, pu_bnd, if_pos cd, if_neg (by decide), q1, pu_bnd, jm e hpe e2]
    · have hv2 : RT n b (si (si (si v 20 (nI p)) 21 2) 22 0) := hv
      obtain ⟨y, v', r1, r2, r3, r4, r5, r6⟩ := q3 _ hv2 h19 rfl
      refine ⟨v', rf0 v hv h19 _ (by rw [letX hbp, pu_bnd, if_neg (show ¬ ltB (b p) = true from fun h => by have := lt_iff_.mp h; omega), if_pos rfl, digX hbp, pu_bnd, if_pos cd, if_neg (by decide), r1]), ⟨fun k h1 h2 h3 h4 => ?_, r6⟩, r3, (r5 20 (by omega) (by omega)), Or.inr (Or.inr (Or.inl ⟨rfl, r5 21 (by omega) (by omega), x, y, rfl, r4, r2⟩))⟩
      rw [r5 k h1 h4]
      show (if k = 22 then 0 else if k = 21 then 2 else if k = 20 then nI p else v.1 k) = v.1 k
      rw [if_neg h4, if_neg h3, if_neg h2]
  · by_cases cl : ltB (b p) = true
    · obtain ⟨e, e1, e2, e3, e4⟩ := scan_ex ltB b n _ p rfl (by omega)
      have hpe : p < e := by
        rcases Nat.lt_or_ge p e with h | h
        · exact h
        · have : e = p := by omega
          rw [this, cl] at e4; exact absurd (e4 hp) (by decide)
      obtain ⟨k, vl, K', q1, q2, q3, q4⟩ := wordT N hN hb hT hK hc e2 e1 e3 e4
      refine ⟨k, vl, e, K', ?_, hpe, e2, q2, q3, fun v hv h19 => ?_⟩
      · unfold f_X9_split_s18 f_X9_split_b114
        rw [if_neg (nI_ge hp (by omega)), pu_gin (show p < 700 by omega) (show 700 < 2 ^ 31 by omega), nI_clamp (show p < 2 ^ 31 by omega), hT p hp, digC hbp, pu_bnd, if_neg cd, if_pos rfl, letC hbp, pu_bnd, if_pos cl, if_neg (by decide), q1, pu_bnd, jm e hpe e2]
      · have hv2 : RT n b (si v 20 (nI p)) := hv
        obtain ⟨v', r1, r2, r3, r4, r5⟩ := q4 _ hv2 h19 rfl
        exact ⟨v', rf0 v hv h19 _ (by rw [letX hbp, pu_bnd, if_pos cl, if_neg (by decide), r1]), (TF_si 20 _ (by omega)).trans r5, r3, r4, r2⟩
    · have hz : ∃ z, ((¬ p + 1 < n ∧ z = 0) ∨ (p + 1 < n ∧ z = tb (b (p + 1)))) ∧ f_X9_split_s18 N K T (nI n) x4 (nI p) = f_X9_split_b107 N K T (nI n) (nI p) z (tb (b p)) := by
        by_cases c1 : p + 1 < n
        · refine ⟨tb (b (p + 1)), Or.inr ⟨c1, rfl⟩, ?_⟩
          unfold f_X9_split_s18
          rw [if_neg (nI_ge hp (by omega)), pu_gin (show p < 700 by omega) (show 700 < 2 ^ 31 by omega), nI_clamp (show p < 2 ^ 31 by omega), hT p hp, digC hbp, pu_bnd, if_neg cd, if_pos rfl, letC hbp, pu_bnd, if_neg cl, if_pos rfl, if_neg (show ¬ tb (b p) = 32 from ne 32 (by omega) hbl.1), if_neg (show ¬ tb (b p) = 10 from ne 10 (by omega) hbl.2), nI_1, if_neg (nI_ge c1 (by omega)), pu_gin (show p + 1 < 700 by omega) (show 700 < 2 ^ 31 by omega), nI_clamp (show p + 1 < 2 ^ 31 by omega), hT (p + 1) c1]
        · refine ⟨0, Or.inl ⟨c1, rfl⟩, ?_⟩
          unfold f_X9_split_s18
          rw [if_neg (nI_ge hp (by omega)), pu_gin (show p < 700 by omega) (show 700 < 2 ^ 31 by omega), nI_clamp (show p < 2 ^ 31 by omega), hT p hp, digC hbp, pu_bnd, if_neg cd, if_pos rfl, letC hbp, pu_bnd, if_neg cl, if_pos rfl, if_neg (show ¬ tb (b p) = 32 from ne 32 (by omega) hbl.1), if_neg (show ¬ tb (b p) = 10 from ne 10 (by omega) hbl.2), nI_1, if_pos (nI_le (by omega) (by omega))]
      obtain ⟨z, hz1, hz2⟩ := hz
      obtain ⟨k, e, K', q1, q2, q3, q4, q5, q6⟩ := signT N z hb hK hc hp hz1
      refine ⟨k, 0, e, K', ?_, q2, q3, q4, q5, fun v hv h19 => ?_⟩
      · rw [hz2]
        unfold f_X9_split_b107 f_X9_split_b114
        rw [q1, pu_bnd, jm e q2 q3]
      · have hv2 : RT n b (si v 20 (nI p)) := hv
        obtain ⟨v', r1, r2, r3, r4, r5⟩ := q6 _ hv2 h19
        exact ⟨v', rf0 v hv h19 _ (by rw [letX hbp, pu_bnd, if_neg cl, if_pos rfl, digX hbp, pu_bnd, if_neg cd, if_pos rfl, r1, pu_bnd]), (TF_si 20 _ (by omega)).trans r5, r3, r4, r2⟩
/-- the reference passes blanks over -/
theorem tokSkip (N : Nat) {n : Nat} {b : Nat → Nat} (hb : HB n b) : ∀ (d : Nat) (v : VV) (a p fu : Nat), p - a = d → a ≤ p → p ≤ n → RT n b v → v.1 19 = nI a → (∀ i, a ≤ i → i < p → b i = 32 ∨ b i = 10) → d < fu → itr (fun q : VV => f_X12_token_s0 N q) fu v = itr (fun q : VV => f_X12_token_s0 N q) (fu - d) (si v 19 (nI p)) := by
  intro d
  induction d with
  | zero =>
    intro v a p fu hd ha hp hv h19 _ _
    have : p = a := by omega
    rw [this, ← h19, si_id]; rfl
  | succ d ih =>
    intro v a p fu hd ha hp hv h19 hbl hfu
    have h7 := hb.1
    have hh := hereR hb hv h19 (by omega)
    rw [if_pos (by omega)] at hh
    have step : f_X12_token_s0 N v = some (.inl (si v 19 (nI (a + 1)))) := by
      unfold f_X12_token_s0 f_X12_token_b18
      rw [hh, pu_bnd, h19, nI_1]
      rcases hbl a (by omega) (by omega) with h | h
      · rw [h, if_neg (show ¬ nI 32 = 10 by decide), pu_bnd, if_pos (show nI 32 = 32 from rfl)]
      · rw [h, if_pos (show nI 10 = 10 from rfl)]
    rw [itr_s (A := fun q : VV => f_X12_token_s0 N q) (by omega) step, ih (si v 19 (nI (a + 1))) (a + 1) p (fu - 1) (by omega) (by omega) hp (RT_TF hv (TF_si 19 _ (by omega))) rfl (fun i h1 h2 => hbl i (by omega) h2) (by omega), si_si, show fu - 1 - d = fu - (d + 1) by omega]
/-- the token j of the row, for a reference at its beginning -/
def TOK (N n : Nat) (b : Nat → Nat) (K : VV) (E : Nat → Nat) (j : Nat) : Prop := ∀ v, RT n b v → v.1 19 = nI (E j) → ∃ v', f_X12_token N v = some v' ∧ TF v v' ∧ v'.1 19 = nI (E (j + 1)) ∧ v'.1 20 = K.2.1 1 j ∧ tokR (K.2.1 0 j) (K.2.1 2 j) (v'.1 21) (v'.1 22)
theorem TOK_c {N n j c : Nat} {b : Nat → Nat} {K K' : VV} {E E' : Nat → Nat} (h : TOK N n b K E j) (hj : j < c) (hK : ∀ i, i < c → K'.2.1 0 i = K.2.1 0 i ∧ K'.2.1 1 i = K.2.1 1 i ∧ K'.2.1 2 i = K.2.1 2 i) (hE : ∀ i, i ≤ c → E' i = E i) : TOK N n b K' E' j := by
  intro v hv h19
  rw [hE j (by omega)] at h19
  obtain ⟨v', a1, a2, a3, a4, a5⟩ := h v hv h19
  obtain ⟨e0, e1, e2⟩ := hK j hj
  exact ⟨v', a1, a2, by rw [hE (j + 1) (by omega)]; exact a3, by rw [e1]; exact a4, by rw [e0, e2]; exact a5⟩
theorem splitR (N : Nat) (hN : 2000 < N) {n : Nat} {b : Nat → Nat} {T : Nat → Int32} (K : VV) (hb : HB n b) (hT : CT n b T) : ∃ K' cnt E, f_X9_split N K T (nI n) = some K' ∧ cnt ≤ 700 ∧ K'.1 3 = nI (cnt + 1) ∧ E 0 = 0 ∧ (∀ j, j ≤ cnt → TOK N n b K' E j) ∧ (∀ j, j < cnt → ¬ K'.2.1 0 j = 0) ∧ K'.2.1 0 cnt = 0 := by
  have hn := hb.1
  unfold f_X9_split
  have ejm : jmin (nI n) 700 = nI n := by
    unfold jmin
    rw [if_neg (show ¬ (700 : Int32) < nI n from nI_nlt (a := 700) (by omega) (by omega))]
  rw [ejm]
  obtain ⟨r, r1, r2⟩ := itr1 (A := fun q : Int32 × Int32 × VV => f_X9_split_s18 N q.2.2 T (nI n) q.1 q.2.1) (fun x y => ∃ a p c E, x = n - p ∧ a ≤ p ∧ p ≤ n ∧ c ≤ E c ∧ E c ≤ p ∧ y.1 = nI a ∧ y.2.1 = nI p ∧ y.2.2.1 3 = nI c ∧ E 0 = 0 ∧ (∀ i, E c ≤ i → i < p → b i = 32 ∨ b i = 10) ∧ (∀ j, j < c → TOK N n b y.2.2 E j) ∧ (∀ j, j < c → ¬ y.2.2.2.1 0 j = 0)) (fun K' => ∃ cnt E, cnt ≤ 700 ∧ K'.1 3 = nI (cnt + 1) ∧ E 0 = 0 ∧ (∀ j, j ≤ cnt → TOK N n b K' E j) ∧ (∀ j, j < cnt → ¬ K'.2.1 0 j = 0) ∧ K'.2.1 0 cnt = 0) (by
    intro x y hR
    obtain ⟨y1, y2, K1⟩ := y
    obtain ⟨a, p, c, E, hx, hap, hpn, hcE, hEp, f1, f2, f3, f4, f5, f6, f7⟩ := hR
    simp only at f1 f2 f3 f6 f7
    subst f1 f2
    simp only
    rcases Nat.lt_or_ge p n with hlt | hge
    · left
      have hbp := hb.2 p hlt
      by_cases cb : b p = 32 ∨ b p = 10
      · refine ⟨n - (p + 1), (nI a, nI (p + 1), K1), by omega, ?_, a, p + 1, c, E, rfl, by omega, hlt, hcE, by omega, rfl, rfl, f3, f4, fun i h1 h2 => ?_, f6, f7⟩
        · unfold f_X9_split_s18 f_X9_split_b114
          have nd : ¬ dgB (b p) = true := fun h => by have := dg_iff.mp h; omega
          have nl : ¬ ltB (b p) = true := fun h => by have := lt_iff_.mp h; omega
          have jm : jmax (nI p + 1) (nI a) = nI (p + 1) := by rw [nI_1, jmaxN (by omega) (by omega), if_neg (by omega)]
          rw [if_neg (nI_ge hlt (by omega)), pu_gin (show p < 700 by omega) (show 700 < 2 ^ 31 by omega), nI_clamp (show p < 2 ^ 31 by omega), hT p hlt, digC hbp, pu_bnd, if_neg nd, if_pos rfl, letC hbp, pu_bnd, if_neg nl, if_pos rfl, jm]
          rcases cb with h | h
          · rw [if_pos (show tb (b p) = 32 from (tb_eq (c := 32) hbp (by omega)).mpr h)]
          · rw [if_neg (show ¬ tb (b p) = 32 from fun e => by have := (tb_eq (c := 32) hbp (by omega)).mp e; omega), if_pos (show tb (b p) = 10 from (tb_eq (c := 10) hbp (by omega)).mpr h)]
        · by_cases e : i = p
          · rw [e]; exact cb
          · exact f5 i h1 (by omega)
      · obtain ⟨k, vl, e, K', q1, q2, q3, q4, q5, q6⟩ := tokOne (c := c) N hN (nI a) hb hT f3 (by omega) hlt (by omega)
        obtain ⟨k1, ⟨k2, k3, k4⟩, k5⟩ := q4
        refine ⟨n - e, (nI e, nI e, K'), by omega, q1, e, e, c + 1, fun i => if i = c + 1 then e else E i, rfl, Nat.le_refl e, q3, ?_, ?_, rfl, rfl, k1, ?_, fun i h1 h2 => ?_, fun j hj => ?_, fun j hj => ?_⟩
        · show c + 1 ≤ (if c + 1 = c + 1 then e else E (c + 1)); rw [if_pos rfl]; omega
        · show (if c + 1 = c + 1 then e else E (c + 1)) ≤ e; rw [if_pos rfl]; exact Nat.le_refl e
        · show (if 0 = c + 1 then e else E 0) = 0; rw [if_neg (by omega)]; exact f4
        · have h1' : (if c + 1 = c + 1 then e else E (c + 1)) ≤ i := h1
          rw [if_pos rfl] at h1'; omega
        · by_cases ej : j = c
          · subst ej
            intro v hv h19
            have h19' : v.1 19 = nI (if j = j + 1 then e else E j) := h19
            rw [if_neg (by omega)] at h19'
            obtain ⟨v', s1, s2, s3, s4, s5⟩ := q6 (si v 19 (nI p)) (RT_TF hv (TF_si 19 _ (by omega))) rfl
            refine ⟨v', ?_, (TF_si 19 _ (by omega)).trans s2, ?_, by rw [s4, k3], by rw [k2, k4]; exact s5⟩
            · unfold f_X12_token
              rw [tokSkip N hb (p - E j) v (E j) p N rfl hEp hpn hv h19' f5 (by omega)]
              exact itr_e (by omega) s1
            · show v'.1 19 = nI (if j + 1 = j + 1 then e else E (j + 1)); rw [if_pos rfl]; exact s3
          · exact TOK_c (c := c) (f6 j (by omega)) (by omega) k5 (fun i hi => if_neg (by omega))
        · by_cases ej : j = c
          · rw [ej, k2]; exact q5
          · rw [(k5 j (by omega)).1]; exact f7 j (by omega)
    · right
      have : p = n := by omega
      subst this
      obtain ⟨K', k1, k2, ⟨k3, k4, k5⟩, k6⟩ := putR (c := c) (by omega) f3 0 (nI p) 0
      unfold f_X9_split_s18
      rw [if_pos (nI_le (Nat.le_refl p) (by omega)), k1, pu_bnd, pu_inrO]
      refine ⟨K', rfl, c, fun i => if i = c + 1 then p else E i, by omega, k2, ?_, fun j hj => ?_, fun j hj => ?_, k3⟩
      · show (if 0 = c + 1 then p else E 0) = 0; rw [if_neg (by omega)]; exact f4
      · by_cases ej : j = c
        · subst ej
          intro v hv h19
          have h19' : v.1 19 = nI (if j = j + 1 then p else E j) := h19
          rw [if_neg (by omega)] at h19'
          have hv2 := RT_TF hv (TF_si 19 (nI p) (by omega))
          have hh : f_X12_here (si v 19 (nI p)) = some (-1) := by
            rw [hereR hb hv2 rfl (Nat.le_refl p), if_neg (by omega)]
          have hh2 : f_X12_here (si (si v 19 (nI p)) 20 (nI p)) = some (-1) := (here_c (v := si v 19 (nI p)) rfl rfl rfl).trans hh
          refine ⟨si (si (si v 19 (nI p)) 20 (nI p)) 21 4, ?_, (TF_si 19 _ (by omega)).trans ((TF_si 20 _ (by omega)).trans (TF_si 21 _ (by omega))), ?_, by rw [k4]; rfl, Or.inl ⟨k3, rfl⟩⟩
          · unfold f_X12_token
            rw [tokSkip N hb (p - E j) v (E j) p N rfl hEp hpn hv h19' f5 (by omega)]
            refine itr_e (by omega) ?_
            show f_X12_token_s0 N (si v 19 (nI p)) = _
            unfold f_X12_token_s0
            rw [hh, pu_bnd, if_neg (by decide), pu_bnd, if_neg (by decide)]
            show inrO (bnd (f_X12_here (si (si v 19 (nI p)) 20 (nI p))) _) = _
            rw [hh2, pu_bnd, if_pos rfl, pu_inrO]; rfl
          · show nI p = nI (if j + 1 = j + 1 then p else E (j + 1)); rw [if_pos rfl]
        · exact TOK_c (c := c) (f6 j (by omega)) (by omega) k6 (fun i hi => if_neg (by omega))
      · rw [(k6 j hj).1]; exact f7 j hj) N n (0, 0, si K 3 0) (by omega) ⟨0, 0, 0, fun _ => 0, rfl, Nat.le_refl 0, Nat.zero_le n, Nat.le_refl 0, Nat.le_refl 0, rfl, rfl, rfl, rfl, fun i _ h => by omega, fun j h => by omega, fun j h => by omega⟩
  obtain ⟨cnt, E, q⟩ := r2
  exact ⟨r, cnt, E, r1, q⟩
