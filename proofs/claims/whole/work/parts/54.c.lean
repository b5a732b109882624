/-- what a party would choose by prices: the loops of both sides -/
theorem chooseR (N : Nat) (hN : 66 < N) {n m p : Nat} {P L v w : VV} (h : PR n m P L v) (hp : p < n) {A : Int32 × Int32 × Int32 → Option ((Int32 × Int32 × Int32) ⊕ Int32)} {d : Nat → Int32}
    (hA : ∀ x y i, i < m → A (x, y, nI i) = if v.2.1 6 (3 * p + i) - d i ≤ y then some (.inl (x, y, nI (i + 1))) else some (.inl (nI i, v.2.1 6 (3 * p + i) - d i, nI (i + 1)))) (hX : ∀ x y, A (x, y, nI m) = some (.inr x)) (hw : ∀ k, k ≤ 15 → w.2.1 k = v.2.1 k) (hd : ∀ t, t < m → w.2.1 62 t = d t) :
    ∃ r r', itr A N (-1, -1, 0) = some r ∧ f_X12_choiceOf N w (nI p) = some r' ∧ ((r = -1 ∧ r' = -2) ∨ ∃ t, t < m ∧ r = nI t ∧ r' = nI t) := by
  have hn := PR_n h
  have hm := PR_m h
  unfold f_X12_choiceOf
  refine itr2 (fun k s s' => ∃ i, k = m - i ∧ i ≤ m ∧ s.2.2 = nI i ∧ s'.2.2 = nI i ∧ ((s.1 = -1 ∧ s.2.1 = -1 ∧ s'.1 = -2) ∨ ∃ t, t < m ∧ s.1 = nI t ∧ s'.1 = nI t ∧ s.2.1 = s'.2.1 ∧ ¬ s.2.1 < 0)) (fun r r' => (r = -1 ∧ r' = -2) ∨ ∃ t, t < m ∧ r = nI t ∧ r' = nI t) ?_ N m _ _ (by omega) ⟨0, rfl, by omega, rfl, rfl, Or.inl ⟨rfl, rfl, rfl⟩⟩
  intro k s s' hR
  obtain ⟨s1, s2, s3⟩ := s
  obtain ⟨t1, t2, t3⟩ := s'
  obtain ⟨i, hk, hi, e1, e2, hc⟩ := hR
  simp only at e1 e2 hc
  subst e1 e2
  simp only
  unfold f_X12_choiceOf_s8 f_X12_choiceOf_b58 f_X12_choiceOf_b64
  rw [hw 3 (by omega), PR_v2 h]
  rcases Nat.lt_or_ge i m with hlt | hge
  · left
    rw [hA s1 s2 i hlt, if_neg (nI_ge hlt (by omega)), pu_3, pu_gin (show 3 * p + i < 48 by omega) (show 48 < 2 ^ 31 by omega), pu_gin (show i < 3 by omega) (show 3 < 2 ^ 31 by omega), nI_clamp (show 3 * p + i < 2 ^ 31 by omega), nI_clamp (show i < 2 ^ 31 by omega), hw 6 (by omega), hd i hlt, nI_1]
    generalize v.2.1 6 (3 * p + i) - d i = g
    have fin : ∀ a b : Int32, ∀ (x : (a = -1 ∧ b = -1) ∨ True), True := fun _ _ _ => trivial
    rcases hc with ⟨f1, f2, f3⟩ | ⟨t, ht, f1, f2, f3, f4⟩
    · subst f1 f2 f3
      by_cases hg : g < 0
      · have : g ≤ -1 := by
          rw [Int32.lt_iff_toInt_lt] at hg
          rw [Int32.le_iff_toInt_le]
          have : (0 : Int32).toInt = 0 := by decide
          have : (-1 : Int32).toInt = -1 := by decide
          omega
        rw [if_pos this, if_pos hg]
        exact ⟨m - (i + 1), _, _, by omega, rfl, rfl, i + 1, rfl, hlt, rfl, rfl, Or.inl ⟨rfl, rfl, rfl⟩⟩
      · have : ¬ g ≤ -1 := by
          rw [Int32.lt_iff_toInt_lt] at hg
          rw [Int32.le_iff_toInt_le]
          have : (0 : Int32).toInt = 0 := by decide
          have : (-1 : Int32).toInt = -1 := by decide
          omega
        rw [if_neg this, if_neg hg, if_pos (by decide)]
        exact ⟨m - (i + 1), _, _, by omega, rfl, rfl, i + 1, rfl, hlt, rfl, rfl, Or.inr ⟨i, hlt, rfl, rfl, rfl, hg⟩⟩
    · subst f1 f2 f3
      by_cases hg : g ≤ s2
      · rw [if_pos hg, if_neg (show ¬ s2 < g from Int32.not_lt.mpr hg), if_neg (nI_pos (show t < 2 ^ 31 by omega)), ite_self]
        exact ⟨m - (i + 1), _, _, by omega, rfl, rfl, i + 1, rfl, hlt, rfl, rfl, Or.inr ⟨t, ht, rfl, rfl, rfl, f4⟩⟩
      · have hg' : ¬ g < 0 := fun h => f4 (i_lt_le (Int32.not_le.mp hg) (Int32.le_of_lt h))
        rw [if_neg hg, if_neg hg', if_neg (nI_pos (show t < 2 ^ 31 by omega)), if_pos (show s2 < g from Int32.not_le.mp hg)]
        exact ⟨m - (i + 1), _, _, by omega, rfl, rfl, i + 1, rfl, hlt, rfl, rfl, Or.inr ⟨i, hlt, rfl, rfl, rfl, hg'⟩⟩
  · right
    have : i = m := by omega
    subst this
    rw [hX, if_pos (nI_le (Nat.le_refl i) (by omega)), pu_inrO]
    refine ⟨_, _, rfl, rfl, ?_⟩
    rcases hc with ⟨f1, f2, f3⟩ | ⟨t, ht, f1, f2, f3, f4⟩
    · exact Or.inl ⟨f1, f3⟩
    · exact Or.inr ⟨t, ht, f1, f2⟩
theorem st_choice (N : Nat) (hN : 66 < N) : ST_choice N INV := by
  intro cv T B v a1 hI
  obtain ⟨n, m, h⟩ := hI
  have hP : PR n m (cv 6) (cv 7) (si v 0 0) := PR_KV h.1 (LF.refl _) (KV_0 v)
  have hm := PR_m hP
  have hn := PR_n hP
  have hc : carR True 0 (cv 8) (si v 0 0) := h.2.1.1
  unfold f_X11_choice f_X12_choice f_X6_chosen_S
  rcases hasP hP a1 with ⟨p, hp, rfl, e1, e2⟩ | ⟨e1, e2⟩
  · simp only [e1, e2, pu_bnd, n10, ↓reduceIte]
    obtain ⟨w0, hw0⟩ : ∃ w0 : VV, w0 = sr (sr (sr (si v 0 0) 62 0 (v.2.1 43 0)) 62 1 (v.2.1 43 1)) 62 2 (v.2.1 43 2) := ⟨_, rfl⟩
    have hkv : KV v w0 := by subst hw0; exact (KV_0 v).trans ((KV_sr 62 0 _ (by omega) (by omega)).trans ((KV_sr 62 1 _ (by omega) (by omega)).trans (KV_sr 62 2 _ (by omega) (by omega))))
    obtain ⟨r, r', h1, h2, h3⟩ := chooseR (w := w0) (d := fun t => v.2.1 43 t) (A := fun q : Int32 × Int32 × Int32 => f_X6_chosen_S_s8 N (cv 6) (cv 8) (nI p) q.1 q.2.1 q.2.2) N hN hP hp (by
      intro x y i hi
      simp only
      unfold f_X6_chosen_S_s8 f_X6_chosen_S_b54
      rw [PR_P3 hP, if_neg (nI_ge hi (by omega)), if_neg (show ¬ (3 : Int32) ≤ nI (i) from nI_ge (a := i) (b := 3) (by omega) (by omega)), traW hP hp (by omega), pu_bnd, pu_gin (show i < 3 by omega) (show 3 < 2 ^ 31 by omega), nI_clamp (show i < 2 ^ 31 by omega), nI_1, (ca3 hc (show i < 3 by omega)).2]; rfl) (by
      intro x y
      simp only
      unfold f_X6_chosen_S_s8
      rw [PR_P3 hP, if_pos (nI_le (Nat.le_refl m) (by omega)), pu_inrO]) (fun k hk => hkv.2.1 k (by omega)) (by
      intro t ht
      subst hw0
      have : t = 0 ∨ t = 1 ∨ t = 2 := by omega
      rcases this with rfl | rfl | rfl <;> rfl)
    have h5 : itr (fun q : Int32 × VV => f_X12_choice_s17 N q.2 (nI p) q.1) N (0, si v 0 0) = some (r', w0) := by
      refine itrF 3 (fun i => (nI i, if i = 0 then si v 0 0 else if i = 1 then sr (si v 0 0) 62 0 (v.2.1 43 0) else if i = 2 then sr (sr (si v 0 0) 62 0 (v.2.1 43 0)) 62 1 (v.2.1 43 1) else w0)) _ ?_ ?_ N 0 (by omega) (by omega)
      · intro i hi
        have : i = 0 ∨ i = 1 ∨ i = 2 := by omega
        rcases this with rfl | rfl | rfl
        · rfl
        · rfl
        · rw [hw0]; rfl
      · show f_X12_choice_s17 N w0 (nI p) (nI 3) = _
        unfold f_X12_choice_s17
        rw [if_pos (show (3 : Int32) ≤ nI 3 from by decide), h2]; rfl
    rw [h1, h5, pu_bnd]
    have fin : INV cv T B w0 := ⟨n, m, inv_kv h (LF.refl _) hkv⟩
    rcases h3 with ⟨rfl, rfl⟩ | ⟨t, ht, rfl, rfl⟩
    · rw [if_pos rfl]; exact ⟨_, _, rfl, rfl, fin⟩
    · rw [if_neg (nI_m1 (by omega))]; exact ⟨_, _, rfl, rfl, fin⟩
  · simp only [e1, e2, pu_bnd, ↓reduceIte]; exact ⟨_, _, rfl, rfl, n, m, inv_kv h (LF.refl _) (KV_0 v)⟩
theorem st_likes (N : Nat) (hN : 66 < N) : ST_likes N INV := by
  intro cv T B v a1 a2 hI
  obtain ⟨n, m, h⟩ := hI
  have h' := inv_kv h (LF.refl _) (KV_0 v)
  obtain ⟨hP, hS, hT, hIm, hWa, hWb, hRf, hH, hU, hRd, hG, hE⟩ := id h'
  have hm := PR_m hP
  have hW := way_std hP hWa hRf
  unfold f_X11_likes f_X12_likes f_X11_areSuch f_X11_likeNow
  rcases hasP hP a1 with ⟨p, hp, rfl, e1, e2⟩ | ⟨e1, e2⟩
  · rcases hasS hP a2 with ⟨t, ht, rfl, e3, e4⟩ | ⟨e3, e4⟩
    · obtain ⟨y, L', v', g1, g2, g3, g4, g5⟩ := likeR (c := 0) N hN hP hp ht (by omega) hW.1 0 (by have := hS.1.2.2.2.2.2.2.2 t (by omega); exact this) hS.1.1.1
      replace g2 : f_X0_manner N (cv 6) (cv 7) (cv 8) (cv 12) 0 (nI p) (nI t) 0 = some (nI y, L') := g2
      replace g3 : f_X12_likeOf N (si v 0 0) 0 (nI p) (nI t) 0 = some (nI y, v') := g3
      simp only [e1, e2, e3, e4, pu_bnd, n10, ↓reduceIte, g2, g3]
      exact ⟨_, _, _, rfl, rfl, n, m, inv_kv h' g4 (KV_wk g5)⟩
    · simp only [e1, e2, e3, e4, pu_bnd, n10, ↓reduceIte]; exact ⟨_, _, _, rfl, rfl, n, m, h'⟩
  · simp only [e1, e2, pu_bnd, ↓reduceIte]; exact ⟨_, _, _, rfl, rfl, n, m, h'⟩
theorem st_stays (N : Nat) (hN : 66 < N) : ST_stays N INV := by
  intro cv T B v a1 a2 hI
  obtain ⟨n, m, h⟩ := hI
  have h' := inv_kv h (LF.refl _) (KV_0 v)
  obtain ⟨hP, hS, hT, hIm, hWa, hWb, hRf, hH, hU, hRd, hG, hE⟩ := id h'
  have hm := PR_m hP
  have hW := way_std hP hWa hRf
  unfold f_X11_stays f_X12_stays f_X11_areSuch
  rcases hasP hP a1 with ⟨p, hp, rfl, e1, e2⟩ | ⟨e1, e2⟩
  · rcases hasS hP a2 with ⟨t, ht, rfl, e3, e4⟩ | ⟨e3, e4⟩
    · obtain ⟨y, L', v', g1, g2, g3, g4, g5⟩ := stayR (c := 0) N hN hP hp ht (by omega) hW.1 0 (by have := hS.1.2.2.2.2.2.2.2 t (by omega); exact this) hS.1.1.1 (by rw [hRf.1.1]; decide)
      replace g2 : f_X0_manner N (cv 6) (cv 7) (cv 8) (cv 12) 1 (nI p) (nI t) 0 = some (nI y, L') := g2
      replace g3 : f_X12_stayOf N (si v 0 0) 0 (nI p) (nI t) 0 = some (nI y, v') := g3
      simp only [e1, e2, e3, e4, pu_bnd, n10, ↓reduceIte, g2, g3]
      exact ⟨_, _, _, rfl, rfl, n, m, inv_kv h' g4 (KV_wk g5)⟩
    · simp only [e1, e2, e3, e4, pu_bnd, n10, ↓reduceIte]; exact ⟨_, _, _, rfl, rfl, n, m, h'⟩
  · simp only [e1, e2, pu_bnd, ↓reduceIte]; exact ⟨_, _, _, rfl, rfl, n, m, h'⟩
theorem st_misses (N : Nat) (hN : 66 < N) : ST_misses N INV := by
  intro cv T B v a1 a2 hI
  obtain ⟨n, m, h⟩ := hI
  have h' := inv_kv h (LF.refl _) (KV_0 v)
  obtain ⟨hP, hS, hT, hIm, hWa, hWb, hRf, hH, hU, hRd, hG, hE⟩ := id h'
  have hm := PR_m hP
  have hW := way_std hP hWa hRf
  unfold f_X11_misses f_X12_misses f_X11_areSuch
  rcases hasP hP a1 with ⟨p, hp, rfl, e1, e2⟩ | ⟨e1, e2⟩
  · rcases hasS hP a2 with ⟨t, ht, rfl, e3, e4⟩ | ⟨e3, e4⟩
    · obtain ⟨y, L', v', g1, g2, g3, g4, g5⟩ := missR (c := 0) N hN hP hp ht (by omega) hW.1 0 (by have := hS.1.2.2.2.2.2.2.2 t (by omega); exact this) hS.1.1.1 (by rw [hRf.1.1]; decide)
      replace g2 : f_X0_manner N (cv 6) (cv 7) (cv 8) (cv 12) 2 (nI p) (nI t) 0 = some (nI y, L') := g2
      replace g3 : f_X12_missOf N (si v 0 0) 0 (nI p) (nI t) 0 = some (nI y, v') := g3
      simp only [e1, e2, e3, e4, pu_bnd, n10, ↓reduceIte, g2, g3]
      exact ⟨_, _, _, rfl, rfl, n, m, inv_kv h' g4 (KV_wk g5)⟩
    · simp only [e1, e2, e3, e4, pu_bnd, n10, ↓reduceIte]; exact ⟨_, _, _, rfl, rfl, n, m, h'⟩
  · simp only [e1, e2, pu_bnd, ↓reduceIte]; exact ⟨_, _, _, rfl, rfl, n, m, h'⟩
theorem st_law (N : Nat) (hN : 66 < N) : ST_law N INV := by
  intro cv T B v a1 a2 a3 a4 hI
  obtain ⟨n, m, h⟩ := hI
  have h' := inv_kv h (LF.refl _) (KV_0 v)
  obtain ⟨hP, hS, hT, hIm, hWa, hWb, hRf, hH, hU, hRd, hG, hE⟩ := id h'
  have hm := PR_m hP
  have hW := way_std hP hWa hRf
  unfold f_X11_law f_X12_law f_X11_areSuch f_X11_law_b31 f_X12_law_b51
  have bad : ∃ (r : Int64) (n0 : VV) (v1 : VV), some ((-9223372036854775808 : Int64), cv 7) = some (r, n0) ∧ some ((-9223372036854775808 : Int64), si v 0 0) = some (r, v1) ∧ INV (uc cv 7 n0) T B v1 := ⟨_, _, _, rfl, rfl, n, m, h'⟩
  rcases pk_ix a1 (n := 3) (by omega) with c1 | c1 | ⟨r, hr, rfl⟩
  · simp only [if_pos c1]; exact bad
  · have c1' : (3 : Int32) ≤ a1 := c1
    have c2 : (2 : Int32) < a1 := i_lt_le (by decide) c1'
    simp only [if_pos c1', if_pos c2, ite_self]; exact bad
  · simp only [if_neg (nI_pos (show r < 2 ^ 31 by omega)), if_neg (show ¬ (3 : Int32) ≤ nI (r) from nI_ge (a := r) (b := 3) (by omega) (by omega)), if_neg (show ¬ (2 : Int32) < nI (r) from nI_nlt (a := 2) (b := r) (by omega) (by omega))]
    obtain ⟨a, b, q1, q2, q3, q4, q5, q6, q7, q8⟩ := PR_law hP hr
    have hlaw : f_X12_hasLaw (si v 0 0) (nI r) = some (if a < b then 1 else 0) := by
      unfold f_X12_hasLaw
      rw [pu_gin (show r < 6 by omega) (show 6 < 2 ^ 31 by omega), pu_gin (show r < 6 by omega) (show 6 < 2 ^ 31 by omega), nI_clamp (show r < 2 ^ 31 by omega), q2, q4]
      by_cases hab : a < b
      · rw [if_neg (nI_ge hab (by omega)), if_pos hab]
      · rw [if_pos (nI_le (show b ≤ a by omega) (by omega)), if_neg hab]
    rcases hasP hP a2 with ⟨p, hp, rfl, e1, e2⟩ | ⟨e1, e2⟩
    · rcases hasS hP a3 with ⟨t, ht, rfl, e3, e4⟩ | ⟨e3, e4⟩
      · simp only [e1, e2, e3, e4, pu_bnd, n10, ↓reduceIte, hlaw]
        by_cases c4 : a4 < 0
        · simp only [if_pos c4, ite_self]; exact bad
        simp only [if_neg c4]
        by_cases c5 : a4 ≤ 999
        · simp only [if_pos c5]
          obtain ⟨L1, v1, k1, k2, k3, k4, k5, k6, k7, k8, k9⟩ := lookR (c := 0) hP hp ht (by omega) hW.1 a4 (by have := hS.1.2.2.2.2.2.2.2 t (by omega); exact this) hS.1.1.1
          replace k2 : f_X12_calls (si v 0 0) 0 (nI p) (nI t) a4 = some v1 := k2
          obtain ⟨x, LL, q, j1, j2, j3, j4, j5⟩ := work_goes N hN L1 v1 r hr (PR_law (PR_LF hP k3 ⟨k5, fun k _ => by rw [k4]⟩) hr) k6
          have hq : q = if a < b then 1 else 0 := by
            have : f_X12_hasLaw v1 (nI r) = f_X12_hasLaw (si v 0 0) (nI r) := by unfold f_X12_hasLaw; rw [k5]
            rw [this, hlaw] at j4
            injection j4 with j4; exact j4.symm
          have hLF : LF (cv 7) LL := ⟨j2.trans k3.1, fun k hk => by rw [j3]; exact k3.2 k hk⟩
          simp only [k1, k2, j1, pu_bnd]
          by_cases hab : a < b
          · rw [if_pos hab] at hq
            rcases j5 with ⟨hq0, _⟩ | ⟨_, z, v2, g1, g2, g3⟩
            · rw [hq] at hq0; exact absurd hq0 (by decide)
            · simp only [if_pos hab, n10, ↓reduceIte, g1, pu_bnd]
              have hkv : KV (si v 0 0) v2 := (KV_wk ⟨k5, fun k _ => by rw [k4]⟩).trans (KV_wk ⟨g2.1, g2.2.1⟩)
              rcases g3 with ⟨rfl, rfl⟩ | ⟨_, rfl, g5⟩
              · simp only [↓reduceIte]; exact ⟨_, _, _, rfl, rfl, n, m, inv_kv h' hLF hkv⟩
              · simp only [n10, ↓reduceIte, g5]; exact ⟨_, _, _, rfl, rfl, n, m, inv_kv h' hLF hkv⟩
          · rw [if_neg hab] at hq
            rcases j5 with ⟨_, hx⟩ | ⟨hq1, _⟩
            · simp only [if_neg hab, ↓reduceIte, hx]; exact ⟨_, _, _, rfl, rfl, n, m, inv_kv h' hLF (KV.refl _)⟩
            · rw [hq] at hq1; exact absurd hq1 (by decide)
        · simp only [if_neg c5, ite_self]; exact bad
      · simp only [e1, e2, e3, e4, pu_bnd, n10, ↓reduceIte, hlaw, ite_self]; exact bad
    · simp only [e1, e2, pu_bnd, ↓reduceIte, hlaw, ite_self]; exact bad
theorem st_known (N : Nat) : ST_known N INV := by
  intro cv T B v a1 hI
  obtain ⟨n, m, h⟩ := hI
  have h' := inv_kv h (LF.refl _) (KV_0 v)
  obtain ⟨hP, hS, hT, hIm, hWa, hWb, hRf, hH, hU, hRd, hG, hE⟩ := id h'
  obtain ⟨k, hk, u1, u2, u3, u4, u5⟩ := id hU
  replace u2 : v.1 64 = nI k := u2
  unfold f_X11_known f_X12_known
  by_cases c1 : a1 < -1
  · simp only [if_pos c1]; exact ⟨_, _, _, rfl, rfl, n, m, h'⟩
  simp only [if_neg c1, u1, u2]
  by_cases c2 : a1 ≤ nI k
  · simp only [if_pos c2]
    refine ⟨_, _, _, rfl, rfl, n, m, hP, hS, hT, hIm, hWa, hWb, hRf, hH_tr (v := si v 0 0) (PR_m hP) rfl (fun i => cs_refl _ (si v 0 0)) hH, ⟨k, hk, u1, u2, rfl, ?_, u5⟩, hRd, hG, hE⟩
    show a1 = -1 ∨ ∃ j : Nat, j ≤ k ∧ a1 = nI j
    by_cases c3 : a1 < 0
    · left
      rw [Int32.lt_iff_toInt_lt] at c1 c3
      have e0 : (0 : Int32).toInt = 0 := by decide
      have e1 : (-1 : Int32).toInt = -1 := by decide
      exact Int32.toInt_inj.mp (by omega)
    · right
      obtain ⟨j, hj, rfl⟩ := nI_of c3
      exact ⟨j, (nI_leI hj (by omega)).mp c2, rfl⟩
  · simp only [if_neg c2]; exact ⟨_, _, _, rfl, rfl, n, m, h'⟩
theorem st_out (N : Nat) : ST_out N INV := by
  intro cv T B v a1 hI
  obtain ⟨n, m, h⟩ := hI
  have h' := inv_kv h (LF.refl _) (KV_0 v)
  obtain ⟨hP, hS, hT, hIm, hWa, hWb, hRf, hH, hU, hRd, hG, hE⟩ := id h'
  obtain ⟨k, hk, u1, u2, u3, u4, u5⟩ := id hU
  replace u2 : v.1 64 = nI k := u2
  unfold f_X11_out f_X12_out f_X5_has f_X5_add
  simp only [u1, u2]
  rcases pk_ix a1 (n := k) (by omega) with c1 | c1 | ⟨j, hj, rfl⟩
  · simp only [if_pos c1, pu_bnd, ↓reduceIte]; exact ⟨_, _, _, rfl, rfl, n, m, h'⟩
  · by_cases c0 : a1 < 0
    · simp only [if_pos c0, pu_bnd, ↓reduceIte]; exact ⟨_, _, _, rfl, rfl, n, m, h'⟩
    · simp only [if_neg c0, if_pos c1, pu_bnd, ↓reduceIte]; exact ⟨_, _, _, rfl, rfl, n, m, h'⟩
  · simp only [if_neg (nI_pos (show j < 2 ^ 31 by omega)), if_neg (nI_ge hj (show k < 2 ^ 31 by omega)), pu_bnd, n10, ↓reduceIte]
    by_cases c2 : k = 24
    · subst c2
      simp only [if_neg (show ¬ nI 24 < 24 from by decide), if_pos (show nI 24 = 24 from rfl), pu_bnd]
      exact ⟨_, _, _, rfl, rfl, n, m, h'⟩
    · simp only [if_pos (show nI (k) < (24 : Int32) from nI_lt (a := k) (b := 24) (by omega) (by omega)), if_neg (show ¬ nI (k) = (24 : Int32) from fun h => absurd ((nI_eq (a := k) (b := 24) (by omega) (by omega)).mp h) (by omega)), pu_gin (show k < 24 by omega) (show 24 < 2 ^ 31 by omega), nI_clamp (show k < 2 ^ 31 by omega), pu_bnd, nI_1, nI_pred]
      refine ⟨_, _, _, rfl, rfl, n, m, hP, hS, hT, hIm, hWa, hWb, hRf, hH_tr (v := si v 0 0) (PR_m hP) rfl (fun i => cs_sr (v := si v 0 0) 69 k (nI j) (by omega)) hH, ⟨k + 1, by omega, rfl, rfl, u3, ?_, ?_⟩, hRd, hG, hE⟩
      · rcases u4 with e | ⟨i, hi, e⟩
        · exact Or.inl e
        · exact Or.inr ⟨i, by omega, e⟩
      · intro i hi
        by_cases e : i = k
        · subst e
          left
          refine ⟨?_, j, hj, ?_, ?_⟩
          · show upd ((cv 16).2.1 0) i 2 i = 2; rw [pk_us]
          · show upd ((cv 16).2.1 1) i (nI j) i = nI j; rw [pk_us]
          · show upd (v.2.1 69) i (nI j) i = nI j; rw [pk_us]
        · have := u5 i (by omega)
          show (upd ((cv 16).2.1 0) k 2 i = 2 ∧ ∃ j' : Nat, j' < i ∧ upd ((cv 16).2.1 1) k (nI j) i = nI j' ∧ upd (v.2.1 69) k (nI j) i = nI j') ∨ (upd (v.2.1 69) k (nI j) i = -1 ∧ (∃ t : Nat, t < m ∧ upd ((cv 16).2.1 1) k (nI j) i = nI t ∧ v.2.1 66 i = nI t) ∧ upd ((cv 16).2.1 2) k 0 i = v.2.1 67 i ∧ ((upd ((cv 16).2.1 0) k 2 i = 0 ∧ v.2.1 68 i = 0) ∨ (upd ((cv 16).2.1 0) k 2 i = 1 ∧ v.2.1 68 i = 1)))
          simp only [pk_un e]
          exact this
theorem st_note (N : Nat) : ST_note N INV := by
  intro cv T B v a1 a2 a3 hI ha3
  obtain ⟨n, m, h⟩ := hI
  have h' := inv_kv h (LF.refl _) (KV_0 v)
  obtain ⟨hP, hS, hT, hIm, hWa, hWb, hRf, hH, hU, hRd, hG, hE⟩ := id h'
  obtain ⟨k, hk, u1, u2, u3, u4, u5⟩ := id hU
  replace u2 : v.1 64 = nI k := u2
  unfold f_X11_note f_X12_note f_X11_note_b37 f_X5_add
  rcases hasS hP a1 with ⟨t, ht, rfl, e1, e2⟩ | ⟨e1, e2⟩
  · simp only [e1, e2, pu_bnd, n10, ↓reduceIte, u1, u2]
    by_cases c1 : a2 < 0
    · simp only [if_pos c1]; exact ⟨_, _, _, rfl, rfl, n, m, h'⟩
    by_cases c2 : a2 ≤ 999
    · have c2' : ¬ (999 : Int32) < a2 := Int32.not_lt.mpr c2
      simp only [if_neg c1, if_pos c2, if_neg c2']
      by_cases c3 : k = 24
      · subst c3
        simp only [if_neg (show ¬ nI 24 < 24 from by decide), if_pos (show nI 24 = 24 from rfl), pu_bnd, ite_self]
        exact ⟨_, _, _, rfl, rfl, n, m, h'⟩
      · simp only [if_pos (show nI (k) < (24 : Int32) from nI_lt (a := k) (b := 24) (by omega) (by omega)), if_neg (show ¬ nI (k) = (24 : Int32) from fun h => absurd ((nI_eq (a := k) (b := 24) (by omega) (by omega)).mp h) (by omega)), pu_gin (show k < 24 by omega) (show 24 < 2 ^ 31 by omega), nI_clamp (show k < 2 ^ 31 by omega), pu_bnd, nI_1, nI_pred]
        have key : ∀ z : Int32, (z = 0 ∨ z = 1) → a3 = z → ∃ (r : Int32) (n0 : VV) (v1 : VV), some (nI k, si (sr (sr (sr (cv 16) 0 k z) 1 k (nI t)) 2 k a2) 4 (nI (k + 1))) = some (r, n0) ∧ gbz a3 (some (nI k, si (sr (sr (sr (sr (si v 0 0) 66 k (nI t)) 67 k a2) 68 k a3) 69 k (-1)) 64 (nI (k + 1)))) = some (r, v1) ∧ INV (uc cv 16 n0) T B v1 := by
          intro z hz hzz
          subst hzz
          unfold gbz
          rw [if_pos hz]
          refine ⟨_, _, _, rfl, rfl, n, m, hP, hS, hT, hIm, hWa, hWb, hRf, hH_tr (v := si v 0 0) (PR_m hP) rfl (fun i => cs_tr (cs_sr (v := si v 0 0) 66 k (nI t) (by omega)) (cs_tr (cs_sr 67 k a2 (by omega)) (cs_tr (cs_sr 68 k a3 (by omega)) (cs_sr 69 k (-1) (by omega))))) hH, ⟨k + 1, by omega, rfl, rfl, u3, ?_, ?_⟩, hRd, hG, hE⟩
          · rcases u4 with e | ⟨i, hi, e⟩
            · exact Or.inl e
            · exact Or.inr ⟨i, by omega, e⟩
          · intro i hi
            show (upd ((cv 16).2.1 0) k a3 i = 2 ∧ ∃ j' : Nat, j' < i ∧ upd ((cv 16).2.1 1) k (nI t) i = nI j' ∧ upd (v.2.1 69) k (-1) i = nI j') ∨ (upd (v.2.1 69) k (-1) i = -1 ∧ (∃ t' : Nat, t' < m ∧ upd ((cv 16).2.1 1) k (nI t) i = nI t' ∧ upd (v.2.1 66) k (nI t) i = nI t') ∧ upd ((cv 16).2.1 2) k a2 i = upd (v.2.1 67) k a2 i ∧ ((upd ((cv 16).2.1 0) k a3 i = 0 ∧ upd (v.2.1 68) k a3 i = 0) ∨ (upd ((cv 16).2.1 0) k a3 i = 1 ∧ upd (v.2.1 68) k a3 i = 1)))
            by_cases e : i = k
            · subst e
              simp only [pk_us]
              right
              refine ⟨trivial, ⟨t, ht, rfl, rfl⟩, trivial, ?_⟩
              rcases hz with hz | hz
              · exact Or.inl ⟨hz, hz⟩
              · exact Or.inr ⟨hz, hz⟩
            · simp only [pk_un e]
              exact u5 i (by omega)
        rcases ha3 with rfl | rfl
        · simp only [↓reduceIte]; exact key 0 (Or.inl rfl) rfl
        · simp only [n10, ↓reduceIte]; exact key 1 (Or.inr rfl) rfl
    · have c2' : (999 : Int32) < a2 := Int32.not_le.mp c2
      simp only [if_neg c1, if_neg c2, if_pos c2']; exact ⟨_, _, _, rfl, rfl, n, m, h'⟩
  · simp only [e1, e2, pu_bnd, ↓reduceIte]; exact ⟨_, _, _, rfl, rfl, n, m, h'⟩
