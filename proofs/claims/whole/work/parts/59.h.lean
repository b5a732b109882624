/-! Days only thought of: chance, tried, lingered. -/
theorem rf_FR {c : Nat} {v w : VV} (h : rfR v) (hF : FR c v w) : rfR w := by
  unfold rfR at *
  rw [hF.1 50 (by omega) (by omega) (by omega) (by omega), hF.1 51 (by omega) (by omega) (by omega) (by omega), hF.1 52 (by omega) (by omega) (by omega) (by omega), hF.1 53 (by omega) (by omega) (by omega) (by omega), hF.2.1 54 (by omega)]
  exact h
theorem car_num {S v : VV} (h : carR True 1 S v) (x : Int32) : carR True 1 (si S 1 x) (sr v 36 1 x) := by
  obtain ⟨⟨d1, d2, d3, d4, d5⟩, a2, a3, a4, a5, a6, a7, a8⟩ := h
  exact ⟨⟨d1, (pk_us (f := v.2.1 36) (k := 1) (x := x)).symm, d3, d4, d5⟩, a2, a3, a4, a5, a6, a7, a8⟩
theorem car_date {S v : VV} (h : carR True 1 S v) (x : Int32) : carR True 1 (si S 0 x) (sr v 32 1 x) := by
  obtain ⟨⟨d1, d2, d3, d4, d5⟩, a2, a3, a4, a5, a6, a7, a8⟩ := h
  exact ⟨⟨(pk_us (f := v.2.1 32) (k := 1) (x := x)).symm, d2, d3, d4, d5⟩, a2, a3, a4, a5, a6, a7, a8⟩
theorem st_chance (N : Nat) (hN : 66 < N) : ST_chance N INV := by
  intro cv T B v a1 a2 a3 hI
  obtain ⟨n, m, h⟩ := hI
  have h' := inv_kv h (LF.refl _) (KV_0 v)
  obtain ⟨hP, hS, hT, hIm, hWa, hWb, hRf, hH, hU, hRd, hG, hE⟩ := id h'
  have hm := PR_m hP
  unfold f_X11_chance f_X12_chance
  by_cases c1 : a1 < 0
  · simp only [if_pos c1]; exact ⟨_, _, _, _, _, rfl, rfl, n, m, h'⟩
  by_cases c2 : a2 < 1
  · simp only [if_neg c1, if_pos c2]; exact ⟨_, _, _, _, _, rfl, rfl, n, m, h'⟩
  by_cases c3 : (20 : Int32) < a2
  · simp only [if_neg c1, if_neg c2, if_pos c3]; exact ⟨_, _, _, _, _, rfl, rfl, n, m, h'⟩
  by_cases c4 : a3 < 0
  · simp only [if_neg c1, if_neg c2, if_neg c3, if_pos c4]; exact ⟨_, _, _, _, _, rfl, rfl, n, m, h'⟩
  by_cases c5 : a3 ≤ 9999
  · simp only [if_neg c1, if_neg c2, if_neg c3, if_neg c4, if_pos c5]
    obtain ⟨d, hd, rfl⟩ := nI_of2 (x := a2) (M := 20) (n := 20) (by decide) (fun h => c2 (i_lt_le h (by decide))) (by rw [Int32.not_lt] at c3; exact c3)
    -- the days of one draw
    have inner : ∀ (x4 x5 x6 : Int32) (L Tr C w : VV), LF (cv 7) L → KV (si v 0 0) w → ∃ r r', f_X11_chance_s37 N (cv 0) (cv 6) L (cv 8) Tr C (cv 13) (nI d) a3 x4 x5 x6 = (if (10 : Int32) ≤ x6 then some (.inr (x5, L, Tr, C)) else some r) ∧ f_X12_chance_s42 N w (nI d) a3 x4 x5 x6 = (if (10 : Int32) ≤ x6 then some (.inr (x5, w)) else some r') ∧ ∃ a b L2 Tr2 C2 w2, r = .inl (a, b, x6 + 1, L2, Tr2, C2) ∧ r' = .inl (a, b, x6 + 1, w2) ∧ LF (cv 7) L2 ∧ KV (si v 0 0) w2 := by
      intro x4 x5 x6 L Tr C w hL hk
      obtain ⟨hP1, hS1, _, _, _, _, hRf1, _⟩ := inv_kv h' hL hk
      obtain ⟨Tr1, w1, t1, t2, t3, t4, t5, t6, t7, t8⟩ := try1 N hN Tr hP1 hS1 (way_std hP1 hWb hRf1)
      have t2' : f_X12_copies N w 1 0 = some w1 := t2
      have hF : FR 1 w (sr w1 36 1 x4) := t3.trans (FR_5 36 x4 (by omega) (by omega))
      obtain ⟨r, r', g1, g2, g3⟩ := itr2 (A := fun q : Int32 × VV × VV × VV => f_X11_chance_s67 N (cv 0) (cv 6) q.2.1 (cv 8) q.2.2.1 q.2.2.2 (cv 13) (nI d) a3 x5 x6 q.1) (B := fun q : Int32 × VV => f_X12_chance_s66 N q.2 (nI d) a3 x5 x6 q.1) (fun k s s' => ∃ i, k = d - i ∧ i ≤ d ∧ s.1 = nI i ∧ s'.1 = nI i ∧ LF (cv 7) s.2.1 ∧ FR 1 w s'.2 ∧ carR True 1 s.2.2.1 s'.2 ∧ sgS s.2.2.1) (fun r r' => ∃ a b L2 Tr2 C2 w2, r = .inl (a, b, x6 + 1, L2, Tr2, C2) ∧ r' = .inl (a, b, x6 + 1, w2) ∧ LF (cv 7) L2 ∧ KV (si v 0 0) w2) (by
        intro k s s' hR
        obtain ⟨s1, L, Tr, C⟩ := s
        obtain ⟨s1', w'⟩ := s'
        obtain ⟨i, hk', hi, f1, f2, f3, f4, f5, f6⟩ := hR
        simp only at f1 f2 f3 f4 f5 f6
        subst f1 f2
        simp only
        unfold f_X11_chance_s67 f_X12_chance_s66
        rcases Nat.lt_or_ge i d with hlt | hge
        · left
          obtain ⟨hP2, _, _, _, _, _, hRf2, _⟩ := inv_kv h' f3 (hk.trans (KV_FR f4))
          obtain ⟨C', L', S', w2, q1, q2, q3, q4, q5, q6, q7, q8, q9, q10⟩ := day1 (aw := True) N hN C hP2 (way_std hP2 hWb hRf2) (fun e => absurd e (by rw [hRf2.1.1]; decide)) f5 f6
          rw [if_neg (nI_ge hlt (show d < 2 ^ 31 by omega)), if_neg (nI_ge hlt (show d < 2 ^ 31 by omega)), q1, q2, pu_bnd, pu_bnd, nI_1]
          exact ⟨d - (i + 1), _, _, by omega, rfl, rfl, i + 1, rfl, hlt, rfl, rfl, f3.trans q4, f4.trans q3, q7, q8⟩
        · right
          have : i = d := by omega
          subst this
          have e1 : w'.2.1 34 1 = Tr.1 10 := f5.1.2.2.2.1.symm
          have e2 : w'.2.1 34 0 = (cv 8).1 10 := by rw [f4.2.2.1 34 0 (by omega) (by omega) (by omega)]; exact hS1.1.1.2.2.2.1.symm
          have e3 : w'.2.1 36 1 = Tr.1 1 := f5.1.2.1.symm
          rw [if_pos (nI_le (Nat.le_refl i) (show i < 2 ^ 31 by omega)), if_pos (nI_le (Nat.le_refl i) (show i < 2 ^ 31 by omega)), e1, e2, e3]
          unfold f_X11_chance_b129 f_X12_chance_b116
          by_cases c : a3 < Tr.1 10 - (cv 8).1 10
          · rw [if_pos c, if_pos c, pu_inrO, pu_inrO, Int32.add_zero]
            exact ⟨_, _, rfl, rfl, _, _, _, _, _, _, rfl, rfl, f3, hk.trans (KV_FR f4)⟩
          · rw [if_neg c, if_neg c, pu_inrO, pu_inrO]
            exact ⟨_, _, rfl, rfl, _, _, _, _, _, _, rfl, rfl, f3, hk.trans (KV_FR f4)⟩) N d (0, L, si Tr1 1 x4, C) (0, sr w1 36 1 x4) (by omega) ⟨0, rfl, by omega, rfl, rfl, hL, hF, car_num t6.1 x4, t6.2.2.1⟩
      refine ⟨r, r', ?_, ?_, g3⟩
      · unfold f_X11_chance_s37
        by_cases c : (10 : Int32) ≤ x6
        · rw [if_pos c, if_pos c, pu_inrO]
        · rw [if_neg c, if_neg c, t1, pu_bnd]; exact g1
      · unfold f_X12_chance_s42
        by_cases c : (10 : Int32) ≤ x6
        · rw [if_pos c, if_pos c, pu_inrO]
        · rw [if_neg c, if_neg c, t2', pu_bnd]; exact g2
    obtain ⟨r, r', g1, g2, g3⟩ := itr2 (A := fun q : Int32 × Int32 × Int32 × VV × VV × VV => f_X11_chance_s37 N (cv 0) (cv 6) q.2.2.2.1 (cv 8) q.2.2.2.2.1 q.2.2.2.2.2 (cv 13) (nI d) a3 q.1 q.2.1 q.2.2.1) (B := fun q : Int32 × Int32 × Int32 × VV => f_X12_chance_s42 N q.2.2.2 (nI d) a3 q.1 q.2.1 q.2.2.1) (fun k s s' => ∃ i, k = 10 - i ∧ i ≤ 10 ∧ s.1 = s'.1 ∧ s.2.1 = s'.2.1 ∧ s.2.2.1 = nI i ∧ s'.2.2.1 = nI i ∧ LF (cv 7) s.2.2.2.1 ∧ KV (si v 0 0) s'.2.2.2) (fun r r' => r.1 = r'.1 ∧ LF (cv 7) r.2.1 ∧ KV (si v 0 0) r'.2) (by
      intro k s s' hR
      obtain ⟨x4, x5, x6, L, Tr, C⟩ := s
      obtain ⟨y4, y5, y6, w⟩ := s'
      obtain ⟨i, hk, hi, f1, f2, f3, f4, f5, f6⟩ := hR
      simp only at f1 f2 f3 f4 f5 f6
      subst f1 f2 f3 f4
      simp only
      obtain ⟨r, r', e1, e2, a, b, L2, Tr2, C2, w2, rfl, rfl, q1, q2⟩ := inner x4 x5 (nI i) L Tr C w f5 f6
      rw [e1, e2]
      rcases Nat.lt_or_ge i 10 with hlt | hge
      · left
        rw [if_neg (show ¬ (10 : Int32) ≤ nI (i) from nI_ge (a := i) (b := 10) (by omega) (by omega)), if_neg (show ¬ (10 : Int32) ≤ nI (i) from nI_ge (a := i) (b := 10) (by omega) (by omega)), nI_1]
        exact ⟨10 - (i + 1), _, _, by omega, rfl, rfl, i + 1, rfl, by omega, rfl, rfl, rfl, rfl, q1, q2⟩
      · right
        have : i = 10 := by omega
        subst this
        rw [if_pos (show (10 : Int32) ≤ nI 10 from by decide), if_pos (show (10 : Int32) ≤ nI 10 from by decide)]
        exact ⟨_, _, rfl, rfl, rfl, f5, f6⟩) N 10 (a1, 0, 0, cv 7, cv 10, cv 11) (a1, 0, 0, si v 0 0) (by omega) ⟨0, rfl, by omega, rfl, rfl, rfl, rfl, LF.refl _, KV.refl _⟩
    obtain ⟨r1, L', Tr', C'⟩ := r
    obtain ⟨r2, w⟩ := r'
    simp only at g3
    obtain ⟨rfl, q1, q2⟩ := g3
    exact ⟨_, _, _, _, _, g1, g2, n, m, inv_kv h' q1 q2⟩
  · simp only [if_neg c1, if_neg c2, if_neg c3, if_neg c4, if_neg c5]; exact ⟨_, _, _, _, _, rfl, rfl, n, m, h'⟩
theorem way_mk {n m : Nat} {P L Y v Y' v' : VV} {a b : Int32} (hP : PR n m P L v) (hw : waR Y 0) (hr : rfR v) (h3 : v'.2.1 = v.2.1) (v50 : v'.1 50 = a) (v51 : v'.1 51 = b) (v52 : v'.1 52 = v.1 52) (v53 : v'.1 53 = v.1 53) (y0 : Y'.1 0 = 0) (y4 : Y'.1 4 = Y.1 4) (y7 : Y'.2.1 = Y.2.1)
    (c1 : a = 1 → ¬ Y'.1 1 = 0) (c2 : ¬ a = 1 → Y'.1 1 = 0) (c3 : a = 4 → ¬ Y'.1 2 = 0) (c4 : ¬ a = 4 → Y'.1 2 = 0) (c5 : a = 2 → Y'.1 3 = b) (c6 : ¬ a = 2 → Y'.1 3 = -1) (c7 : a = 3 → Y'.1 5 = 4) (c8 : ¬ a = 3 → Y'.1 5 = 0) (c9 : a = 5 → Y'.1 6 = 9) (c10 : ¬ a = 5 → Y'.1 6 = 0) : wayR n P Y' v' 0 := by
  obtain ⟨g1, g2, g3, g4⟩ := way_std hP hw hr
  refine ⟨?_, ⟨y0, by rw [v50]; exact c1, by rw [v50]; exact c2, by rw [v50]; exact c3, by rw [v50]; exact c4, by rw [v50, v51]; exact c5, by rw [v50]; exact c6, by rw [v50]; exact c7, by rw [v50]; exact c8⟩, ?_, fun u hu => by rw [y7, h3]; exact g4 u hu⟩
  · unfold linR at *; rw [y4, v53]; exact g1
  · by_cases e : a = 5
    · refine ⟨9, by decide, ?_, ?_⟩
      · unfold f_X12_handsOf; rw [v52, hr.1.2.2.1, if_pos (by decide), v50, if_pos e]
      · unfold f_X0_laying
        rw [c9 e, if_neg (by decide), show (9 : Int32) = nI 9 from rfl, lay_b (by omega) (by omega), h3, (PR_sE hP).2.2.1]
    · obtain ⟨x, hx1, hx2, hx⟩ := (PR_sF hP).2.2.2.1
      refine ⟨nI x, nI_ne0 (by omega) (by omega), ?_, ?_⟩
      · unfold f_X12_handsOf; rw [v52, hr.1.2.2.1, if_pos (by decide), v50, if_neg e, h3, hx]
      · unfold f_X0_laying
        rw [c10 e, if_pos (by decide), (PR_sE hP).2.2.2.1, hx, lay_b hx1 hx2, h3, (PR_sE hP).2.2.1]
theorem way_tried {n m : Nat} {P L Y v : VV} {a : Int32} (b : Int32) (hP : PR n m P L v) (hw : waR Y 0) (hr : rfR v) (ha : a = 0 ∨ a = 1 ∨ a = 2 ∨ a = 3 ∨ a = 4 ∨ a = 5) : ∃ Y', f_X10_change Y a b = some Y' ∧ wayR n P Y' (si (si v 50 a) 51 b) 0 := by
  obtain ⟨⟨w0, w1, w2, w3, w4, w5, w6⟩, w7⟩ := id hw
  unfold f_X10_change
  rcases ha with rfl | rfl | rfl | rfl | rfl | rfl
  · simp only [if_neg (show ¬ (0 : Int32) = 1 by decide), if_neg (show ¬ (0 : Int32) = 2 by decide), if_neg (show ¬ (0 : Int32) = 3 by decide), if_neg (show ¬ (0 : Int32) = 4 by decide), if_neg (show ¬ (0 : Int32) = 5 by decide)]
    exact ⟨_, rfl, way_mk (a := 0) hP hw hr rfl rfl rfl rfl rfl w0 rfl rfl (fun h => absurd h (by decide)) (fun _ => w1) (fun h => absurd h (by decide)) (fun _ => w2) (fun h => absurd h (by decide)) (fun _ => w3) (fun h => absurd h (by decide)) (fun _ => w5) (fun h => absurd h (by decide)) (fun _ => w6)⟩
  · simp only [if_pos (show (1 : Int32) = 1 from rfl)]
    exact ⟨_, rfl, way_mk (a := 1) hP hw hr rfl rfl rfl rfl rfl w0 rfl rfl (fun _ => (by decide : ¬ (1 : Int32) = 0)) (fun h => absurd rfl h) (fun h => absurd h (by decide)) (fun _ => w2) (fun h => absurd h (by decide)) (fun _ => w3) (fun h => absurd h (by decide)) (fun _ => w5) (fun h => absurd h (by decide)) (fun _ => w6)⟩
  · simp only [if_neg (show ¬ (2 : Int32) = 1 by decide), if_pos (show (2 : Int32) = 2 from rfl)]
    exact ⟨_, rfl, way_mk (a := 2) hP hw hr rfl rfl rfl rfl rfl w0 rfl rfl (fun h => absurd h (by decide)) (fun _ => w1) (fun h => absurd h (by decide)) (fun _ => w2) (fun _ => rfl) (fun h => absurd rfl h) (fun h => absurd h (by decide)) (fun _ => w5) (fun h => absurd h (by decide)) (fun _ => w6)⟩
  · simp only [if_neg (show ¬ (3 : Int32) = 1 by decide), if_neg (show ¬ (3 : Int32) = 2 by decide), if_pos (show (3 : Int32) = 3 from rfl)]
    exact ⟨_, rfl, way_mk (a := 3) hP hw hr rfl rfl rfl rfl rfl w0 rfl rfl (fun h => absurd h (by decide)) (fun _ => w1) (fun h => absurd h (by decide)) (fun _ => w2) (fun h => absurd h (by decide)) (fun _ => w3) (fun _ => rfl) (fun h => absurd rfl h) (fun h => absurd h (by decide)) (fun _ => w6)⟩
  · simp only [if_neg (show ¬ (4 : Int32) = 1 by decide), if_neg (show ¬ (4 : Int32) = 2 by decide), if_neg (show ¬ (4 : Int32) = 3 by decide), if_pos (show (4 : Int32) = 4 from rfl)]
    exact ⟨_, rfl, way_mk (a := 4) hP hw hr rfl rfl rfl rfl rfl w0 rfl rfl (fun h => absurd h (by decide)) (fun _ => w1) (fun _ => (by decide : ¬ (1 : Int32) = 0)) (fun h => absurd rfl h) (fun h => absurd h (by decide)) (fun _ => w3) (fun h => absurd h (by decide)) (fun _ => w5) (fun h => absurd h (by decide)) (fun _ => w6)⟩
  · simp only [if_neg (show ¬ (5 : Int32) = 1 by decide), if_neg (show ¬ (5 : Int32) = 2 by decide), if_neg (show ¬ (5 : Int32) = 3 by decide), if_neg (show ¬ (5 : Int32) = 4 by decide), if_pos (show (5 : Int32) = 5 from rfl)]
    exact ⟨_, rfl, way_mk (a := 5) hP hw hr rfl rfl rfl rfl rfl w0 rfl rfl (fun h => absurd h (by decide)) (fun _ => w1) (fun h => absurd h (by decide)) (fun _ => w2) (fun h => absurd h (by decide)) (fun _ => w3) (fun h => absurd h (by decide)) (fun _ => w5) (fun _ => rfl) (fun h => absurd rfl h)⟩
theorem tried_b (N : Nat) (hN : 66 < N) {n m : Nat} {X : VV} {T : Nat → Int32} {R P L S Im Wa Wb Z U D E v : VV} (X0 Tr C Wo : VV) (h' : INV0 n m X T R P L S Im Wa Wb Z U D E v) (a1 a2 a3 : Int32) (ha : a1 = 0 ∨ a1 = 1 ∨ a1 = 2 ∨ a1 = 3 ∨ a1 = 4 ∨ a1 = 5) :
    ∃ r L' Tr' C' W' w, f_X11_tried_b34 N X0 P L S Tr C Wo a1 a2 a3 1 = some (r, L', Tr', C', W') ∧ f_X12_tried_b36 N v a1 a2 a3 1 = some (r, w) ∧ LF L L' ∧ KV v w := by
  obtain ⟨hP, hS, hT, hIm, hWa, hWb, hRf, hH, hU, hRd, hG, hE⟩ := id h'
  have hm := PR_m hP
  unfold f_X11_tried_b34 f_X12_tried_b36
  simp only [n10, ↓reduceIte]
  by_cases c1 : a3 < 0
  · simp only [if_pos c1]; exact ⟨_, _, _, _, _, _, rfl, rfl, LF.refl _, KV.refl _⟩
  by_cases c2 : a3 ≤ 20
  · simp only [if_neg c1, if_pos c2]
    obtain ⟨d, hd, rfl⟩ := nI_of2 (M := 20) (n := 20) (by decide) c1 c2
    obtain ⟨Y0, y1, y2⟩ := resetR N hN Wo
    obtain ⟨Y, y3, y4⟩ := way_tried a2 hP y2 hRf ha
    have hP0 : PR n m P L (si (si v 50 a1) 51 a2) := hP
    have hS0 : stR n m 0 S (si (si v 50 a1) 51 a2) := hS
    obtain ⟨Tr1, w1, t1, t2, t3, t4, t5, t6, t7, t8⟩ := try1 N hN Tr hP0 hS0 y4
    have t2' : f_X12_copies N (si (si v 50 a1) 51 a2) 1 0 = some w1 := t2
    rw [y1, pu_bnd, y3, pu_bnd, t1, pu_bnd, t2', pu_bnd]
    obtain ⟨r, r', g1, g2, g3⟩ := itr2 (A := fun q : Int32 × VV × VV × VV × VV => f_X11_tried_s83 N X0 P q.2.1 S q.2.2.1 q.2.2.2.1 q.2.2.2.2 (nI d) q.1) (B := fun q : Int32 × VV => f_X12_tried_s74 N q.2 (nI d) q.1) (fun k s s' => ∃ i, k = d - i ∧ i ≤ d ∧ s.1 = nI i ∧ s'.1 = nI i ∧ LF L s.2.1 ∧ FR 1 (si (si v 50 a1) 51 a2) s'.2 ∧ carR False 1 s.2.2.1 s'.2 ∧ sgS s.2.2.1 ∧ s.2.2.2.2 = Y) (fun r r' => r.1 = r'.1 ∧ LF L r.2.1 ∧ KV v r'.2) (by
      intro k s s' hR
      obtain ⟨s1, L1, Tr1, C1, Y1⟩ := s
      obtain ⟨s1', w'⟩ := s'
      obtain ⟨i, hk', hi, f1, f2, f3, f4, f5, f6, f7⟩ := hR
      simp only at f1 f2 f3 f4 f5 f6 f7
      subst f1 f2 f7
      simp only
      unfold f_X11_tried_s83 f_X12_tried_s74
      rcases Nat.lt_or_ge i d with hlt | hge
      · left
        obtain ⟨C', L', S', w2, q1, q2, q3, q4, q5, q6, q7, q8, q9, q10⟩ := day1 (aw := False) N hN C1 (PR_FR hP0 f3 f4) (way_FR y4 f4) (fun _ h => h) f5 f6
        rw [if_neg (nI_ge hlt (show d < 2 ^ 31 by omega)), if_neg (nI_ge hlt (show d < 2 ^ 31 by omega)), q1, q2, pu_bnd, pu_bnd, nI_1]
        exact ⟨d - (i + 1), _, _, by omega, rfl, rfl, i + 1, rfl, hlt, rfl, rfl, f3.trans q4, f4.trans q3, q7, q8, rfl⟩
      · right
        have : i = d := by omega
        subst this
        have e1 : w'.2.1 33 1 = Tr1.1 9 := f5.1.2.2.1.symm
        have e2 : w'.2.1 33 0 = S.1 9 := by rw [f4.2.2.1 33 0 (by omega) (by omega) (by omega)]; exact hS.1.1.2.2.1.symm
        rw [if_pos (nI_le (Nat.le_refl i) (show i < 2 ^ 31 by omega)), if_pos (nI_le (Nat.le_refl i) (show i < 2 ^ 31 by omega)), e1, e2, pu_inrO, pu_inrO]
        refine ⟨_, _, rfl, rfl, rfl, f3, ?_, ?_, ?_⟩
        · intro k hk
          show (if k = 51 then (-1 : Int32) else if k = 50 then 0 else w'.1 k) = v.1 k
          by_cases e51 : k = 51
          · rw [if_pos e51, e51]; exact hRf.1.2.1.symm
          · rw [if_neg e51]
            by_cases e50 : k = 50
            · rw [if_pos e50, e50]; exact hRf.1.1.symm
            · rw [if_neg e50, f4.1 k (by omega) (by omega) (by omega) (by omega)]
              show (if k = 51 then a2 else if k = 50 then a1 else v.1 k) = v.1 k
              rw [if_neg e51, if_neg e50]
        · intro k hk; exact f4.2.1 k (by omega)
        · intro c hc
          have hcs := cs_FR f4 hc; exact hcs) N d (0, L, Tr1, C, Y) (0, w1) (by omega) ⟨0, rfl, by omega, rfl, rfl, LF.refl _, t3, car_aw t6.1, t6.2.2.1, rfl⟩
    obtain ⟨r1, L', Tr', C', W'⟩ := r
    obtain ⟨r2, w⟩ := r'
    simp only at g3
    obtain ⟨rfl, q1, q2⟩ := g3
    exact ⟨_, _, _, _, _, _, g1, g2, q1, q2⟩
  · simp only [if_neg c1, if_neg c2]; exact ⟨_, _, _, _, _, _, rfl, rfl, LF.refl _, KV.refl _⟩
theorem six {a : Int32} (h0 : ¬ a < 0) (h5 : ¬ (5 : Int32) < a) : a = 0 ∨ a = 1 ∨ a = 2 ∨ a = 3 ∨ a = 4 ∨ a = 5 := by
  obtain ⟨d, hd, rfl⟩ := nI_of2 (M := 5) (n := 5) (by decide) h0 (by rw [Int32.not_lt] at h5; exact h5)
  have : d = 0 ∨ d = 1 ∨ d = 2 ∨ d = 3 ∨ d = 4 ∨ d = 5 := by omega
  rcases this with rfl | rfl | rfl | rfl | rfl | rfl
  · exact Or.inl rfl
  · exact Or.inr (Or.inl rfl)
  · exact Or.inr (Or.inr (Or.inl rfl))
  · exact Or.inr (Or.inr (Or.inr (Or.inl rfl)))
  · exact Or.inr (Or.inr (Or.inr (Or.inr (Or.inl rfl))))
  · exact Or.inr (Or.inr (Or.inr (Or.inr (Or.inr rfl))))
theorem st_tried (N : Nat) (hN : 66 < N) : ST_tried N INV := by
  intro cv T B v a1 a2 a3 hI
  obtain ⟨n, m, h⟩ := hI
  have h' := inv_kv h (LF.refl _) (KV_0 v)
  obtain ⟨hP, hS, hT, hIm, hWa, hWb, hRf, hH, hU, hRd, hG, hE⟩ := id h'
  have no : ∃ (r : Int32) (n0 n1 n2 n3 v1 : VV), f_X11_tried_b34 N (cv 0) (cv 6) (cv 7) (cv 8) (cv 10) (cv 11) (cv 14) a1 a2 a3 0 = some (r, n0, n1, n2, n3) ∧ f_X12_tried_b36 N (si v 0 0) a1 a2 a3 0 = some (r, v1) ∧ INV (uc (uc (uc (uc cv 7 n0) 10 n1) 11 n2) 14 n3) T B v1 := by
    unfold f_X11_tried_b34 f_X12_tried_b36
    simp only [↓reduceIte]
    exact ⟨_, _, _, _, _, _, rfl, rfl, n, m, h'⟩
  have yes : (a1 = 0 ∨ a1 = 1 ∨ a1 = 2 ∨ a1 = 3 ∨ a1 = 4 ∨ a1 = 5) → ∃ (r : Int32) (n0 n1 n2 n3 v1 : VV), f_X11_tried_b34 N (cv 0) (cv 6) (cv 7) (cv 8) (cv 10) (cv 11) (cv 14) a1 a2 a3 1 = some (r, n0, n1, n2, n3) ∧ f_X12_tried_b36 N (si v 0 0) a1 a2 a3 1 = some (r, v1) ∧ INV (uc (uc (uc (uc cv 7 n0) 10 n1) 11 n2) 14 n3) T B v1 := by
    intro ha
    obtain ⟨r, L', Tr', C', W', w, q1, q2, q3, q4⟩ := tried_b N hN (cv 0) (cv 10) (cv 11) (cv 14) h' a1 a2 a3 ha
    exact ⟨_, _, _, _, _, _, q1, q2, n, m, inv_kv h' q3 q4⟩
  unfold f_X11_tried f_X12_tried f_X11_tried_b33 f_X12_tried_b35
  by_cases c2 : a1 = 2
  · simp only [if_pos c2]
    rcases hasP hP a2 with ⟨p, hp, _, e1, e2⟩ | ⟨e1, e2⟩
    · simp only [e1, e2, pu_bnd]; exact yes (Or.inr (Or.inr (Or.inl c2)))
    · simp only [e1, e2, pu_bnd]; exact no
  · simp only [if_neg c2]
    by_cases c3 : a1 < 0
    · simp only [if_pos c3]; exact no
    by_cases c4 : (5 : Int32) < a1
    · simp only [if_neg c3, if_pos c4]; exact no
    by_cases c5 : a2 = 0
    · simp only [if_neg c3, if_neg c4, if_pos c5]; exact yes (six c3 c4)
    · simp only [if_neg c3, if_neg c4, if_neg c5]; exact no
