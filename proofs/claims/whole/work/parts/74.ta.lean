/-! text: settings, sittings, laws -/
variable {N n cnt : Nat} {b : Nat → Nat} {K : VV} {E : Nat → Nat}
theorem LPO_pre {j j2 : Nat} {v v3 : VV} {cr : Option (Int32 × VV × VV × VV)} {rr : Option VV} (hp : PF v v3) (hj : j ≤ j2) (h : LPO n cnt b K E j2 v3 cr rr) : LPO n cnt b K E j v cr rr := by
  obtain ⟨z, R', P', L', v', c1, c2, c3, c4⟩ := h
  refine ⟨z, R', P', L', v', c1, c2, hp.trans c3, ?_⟩
  rcases c4 with c5 | ⟨c5, a, c, q, j', c6, c7⟩
  · exact Or.inl c5
  · exact Or.inr ⟨c5, a, c, q, j', by omega, c7⟩
theorem swd_ne : ∀ s, s < 6 → swd s < 8 ∧ ¬ swd s = 0 ∧ ¬ swd s = 2 ∧ slo s ≤ 1 ∧ shi s ≤ 99999 ∧ (evC 2).getD s 0 = nI (slo s) ∧ (evC 3).getD s 0 = nI (shi s) := by decide +kernel
theorem swd_inj : ∀ s, s < 6 → ∀ s', s' < 6 → swd s = swd s' → s = s' := by decide +kernel
theorem fresherR (v : VV) (i : Nat) (hi : i < 9) : f_X12_fresher v (nI i) = some (v.2.1 3 (9 + i)) := by
  unfold f_X12_fresher
  rw [show (9 : Int32) + nI i = nI (9 + i) from nI_add 9 i, pu_gin (show 9 + i < 18 by omega) (show 18 < 2 ^ 31 by omega), nI_clamp (show 9 + i < 2 ^ 31 by omega)]
theorem readsR (v : VV) (i : Nat) (x : Int32) (hi : i < 9) : f_X12_reads v (nI i) x = some (sr v 3 (9 + i) x) := by
  unfold f_X12_reads
  rw [show (9 : Int32) + nI i = nI (9 + i) from nI_add 9 i, pu_gin (show 9 + i < 18 by omega) (show 18 < 2 ^ 31 by omega), nI_clamp (show 9 + i < 2 ^ 31 by omega)]
theorem PR_set {a c s w x : Nat} {P L u P' u' : VV} (h : PR a c P L u) (hs : s < 6) (hw : w = swd s) (h1 : P'.1 = P.1) (h2 : ∀ k, k ≠ 6 → k ≠ 7 → P'.2.1 k = P.2.1 k) (h3 : ∀ k, k ≠ 3 → u'.2.1 k = u.2.1 k) (h4 : ∀ i, i ≠ w → u'.2.1 3 i = u.2.1 3 i) (h5 : P'.2.1 6 s = nI x) (h6 : u'.2.1 3 w = nI x) (h7 : ∀ s', s' ≠ s → P'.2.1 6 s' = P.2.1 6 s') (h8 : slo s ≤ x ∧ x ≤ shi s) : PR a c P' L u' := by
  obtain ⟨p1, ⟨p2, p3, p4, p5⟩, p6, p7, p8, p9, p10, p11, p12⟩ := h
  obtain ⟨w8, w0, w2, _⟩ := swd_ne s hs
  refine ⟨p1, ⟨by rw [h1]; exact p2, by rw [h4 0 (by omega)]; exact p3, by rw [h1]; exact p4, by rw [h4 2 (by omega)]; exact p5⟩, fun p hp => ?_, fun t ht => ?_, fun t h1 h2' => by rw [h2 5 (by omega) (by omega)]; exact p8 t h1 h2', ?_, ?_, fun r hr => ?_, by rw [h4 8 (by omega)]; exact p12⟩
  · have := p6 p hp
    unfold trR trB at *
    rw [h2 1 (by omega) (by omega), h2 (100 + p) (by omega) (by omega), h3 4 (by omega), h3 5 (by omega), h3 6 (by omega), h3 7 (by omega), h3 8 (by omega), h3 9 (by omega)]
    exact this
  · have := p7 t ht
    unfold siR siB at *
    rw [h2 4 (by omega) (by omega), h2 5 (by omega) (by omega), h3 10 (by omega), h3 11 (by omega)]
    exact this
  · rw [seR_iff] at p9 ⊢
    intro s' hs'
    by_cases e : s' = s
    · rw [e, h5, ← hw, h6]
    · rw [h7 s' e, h4 (swd s') (fun hh => e (swd_inj s' hs' s hs (by rw [hh, hw])))]
      exact p9 s' hs'
  · rw [seB_iff] at p10 ⊢
    intro s' hs'
    by_cases e : s' = s
    · rw [e, ← hw, h6]; exact ⟨x, h8.1, h8.2, rfl⟩
    · rw [h4 (swd s') (fun hh => e (swd_inj s' hs' s hs (by rw [hh, hw])))]
      exact p10 s' hs'
  · have := p11 r hr
    unfold lawR at *
    rw [h3 12 (by omega), h3 13 (by omega), h3 14 (by omega), h3 15 (by omega)]
    exact this
theorem b105_set {v v1 : VV} {s : Nat} (hs : s < 6) (h23 : v.1 23 = 0) (ht : f_X12_token N (si v 16 (v.1 16 ||| ((1 : Int32) <<< (nI (swd s) &&& 31)))) = some v1) : f_X12_line_b105 N v (nI (swd s)) = bnd (f_X12_numeral N v1 (nI (slo s)) (nI (shi s))) (fun q => bnd (f_X12_reads q.2 (nI (swd s)) q.1) (fun r => f_X12_line_b355 N r)) := by
  unfold f_X12_line_b105
  rw [if_pos h23, ht, pu_bnd]
  rcases s6 hs with rfl | rfl | rfl | rfl | rfl | rfl
  · rw [if_neg (show ¬ nI (swd 0) = 0 by decide), if_pos (show nI (swd 0) = 1 from rfl)]; rfl
  · rw [if_neg (show ¬ nI (swd 1) = 0 by decide), if_neg (show ¬ nI (swd 1) = 1 by decide), if_neg (show ¬ nI (swd 1) = 2 by decide), if_pos (show nI (swd 1) = 3 from rfl)]; rfl
  · rw [if_neg (show ¬ nI (swd 2) = 0 by decide), if_neg (show ¬ nI (swd 2) = 1 by decide), if_neg (show ¬ nI (swd 2) = 2 by decide), if_neg (show ¬ nI (swd 2) = 3 by decide), if_pos (show nI (swd 2) = 4 from rfl)]; rfl
  · rw [if_neg (show ¬ nI (swd 3) = 0 by decide), if_neg (show ¬ nI (swd 3) = 1 by decide), if_neg (show ¬ nI (swd 3) = 2 by decide), if_neg (show ¬ nI (swd 3) = 3 by decide), if_neg (show ¬ nI (swd 3) = 4 by decide), if_pos (show nI (swd 3) = 5 from rfl)]; rfl
  · rw [if_neg (show ¬ nI (swd 4) = 0 by decide), if_neg (show ¬ nI (swd 4) = 1 by decide), if_neg (show ¬ nI (swd 4) = 2 by decide), if_neg (show ¬ nI (swd 4) = 3 by decide), if_neg (show ¬ nI (swd 4) = 4 by decide), if_neg (show ¬ nI (swd 4) = 5 by decide), if_pos (show nI (swd 4) = 6 from rfl)]; rfl
  · rw [if_neg (show ¬ nI (swd 5) = 0 by decide), if_neg (show ¬ nI (swd 5) = 1 by decide), if_neg (show ¬ nI (swd 5) = 2 by decide), if_neg (show ¬ nI (swd 5) = 3 by decide), if_neg (show ¬ nI (swd 5) = 4 by decide), if_neg (show ¬ nI (swd 5) = 5 by decide), if_neg (show ¬ nI (swd 5) = 6 by decide), if_pos (show nI (swd 5) = 7 from rfl)]; rfl
theorem b105_f {v : VV} (h : ¬ v.1 23 = 0) (x : Int32) : f_X12_line_b105 N v x = some v := by unfold f_X12_line_b105; rw [if_neg h]
theorem setLn (h : TKS N n cnt b K E) {a c q j s : Nat} {R P L v : VV} (hl : LI n cnt b K E a c q j R P L v) (hs : s < 6) (hj : j < cnt) : LPO n cnt b K E j v (bnd (f_X7_readSetting R K P L (nI s)) (fun y => f_X7_readLine_b77 N y.2.1 K y.2.2 L y.1)) (f_X12_line_b84 N v (nI (swd s)) 1) := by
  obtain ⟨hg, hP, hT, r4, r5, r6, r7⟩ := id hl
  obtain ⟨⟨g1, g2, g3⟩, g4, g5, ⟨g6, g7⟩, ⟨g8, g8'⟩, ⟨g9, g10⟩, g11⟩ := id hg
  obtain ⟨kd, vd, rf⟩ := kindR h g5 g1
  obtain ⟨w8, w0, w2, slo1, shi9, ev2, ev3⟩ := swd_ne s hs
  unfold f_X7_readSetting f_X12_line_b84
  rw [if_neg (nI_pos (show s < 2 ^ 31 by omega)), if_pos (show nI (s) < (6 : Int32) from nI_lt (a := s) (b := 6) (by omega) (by omega)), pu_gin (show s < 6 by omega) (show 6 < 2 ^ 31 by omega), nI_clamp (show s < 2 ^ 31 by omega), if_neg (show ¬ (1 : Int32) = 0 by decide), pu_bit (v.1 16) (show swd s < 31 by omega)]
  rcases hT.1 s hs with ⟨t1, t2⟩ | ⟨t1, t2⟩
  · rw [if_pos t1, t2, show (if false = true then (1 : Int32) else 0) = 0 from rfl, if_neg (show ¬ (0 : Int32) = 1 by decide), pu_gin (show s < 6 by omega) (show 6 < 2 ^ 31 by omega), pu_gin (show s < 6 by omega) (show 6 < 2 ^ 31 by omega), ev2, ev3, g5, nI_1]
    obtain ⟨v1, a1, a2, a3, a4, a5, a6⟩ := wordNext (w := swd s) h hl hj (by omega)
    rw [b105_set hs g6 a1]
    rcases numeralR h a2 (show slo s ≤ 1000 by omega) shi9 with ⟨R', v', n1, n2, n3, n4, n5⟩ | ⟨x, v', x1, x2, x3, n1, n2, n3, n4⟩
    · rw [n1, pu_bnd, if_pos rfl, pu_bnd, n2, pu_bnd, readsR _ _ _ (by omega), pu_bnd, b77_0]
      have hf : ¬ (sr v' 3 (9 + swd s) (nI (slo s))).1 23 = 0 := n5
      rw [b355_f hf]
      exact ⟨0, R', P, L, _, rfl, rfl, (a6.trans (PF_EF n4)).trans (PF_sr 3 _ _ (by omega) (by omega) (by rw [hk_3]; omega)), Or.inl ⟨rfl, n3⟩⟩
    · rw [n1, pu_bnd, if_neg (by show ¬ (1 : Int32) = 0; decide), pu_gin (show s < 6 by omega) (show 6 < 2 ^ 31 by omega), pu_gin (show s < 6 by omega) (show 6 < 2 ^ 31 by omega), pu_bnd, n2, pu_bnd, readsR _ _ _ (by omega), pu_bnd]
      have e16 : v'.1 16 = v1.1 16 := n3.1 16 (by omega) (by omega) (by omega) (by omega)
      have e17 : v'.1 17 = v.1 17 := (n3.1 17 (by omega) (by omega) (by omega) (by omega)).trans (a4 17 (by omega) (by omega) (by omega) (by omega) (by omega))
      have e24 : v'.1 24 = v.1 24 := (n3.1 24 (by omega) (by omega) (by omega) (by omega)).trans (a4 24 (by omega) (by omega) (by omega) (by omega) (by omega))
      have e2 : v'.2 = v.2 := n3.2.trans a3
      have hLI : LI n cnt b K E a c q (j + 1 + 1) (si (si (si R 2 (nI (j + 1))) 3 (nI x)) 2 (nI (j + 1 + 1))) (sr (sr P 7 s 1) 6 s (nI x)) L (sr v' 3 (9 + swd s) (nI x)) := by
        obtain ⟨m1, m4, m5, m6, ⟨m8, m8'⟩, m9, m11⟩ := id n4
        refine ⟨⟨m1, m4, m5, m6, ⟨m8, ?_⟩, m9, m11⟩, PR_set (s := s) (w := swd s) (x := x) hP hs rfl rfl (fun k h6 h7 => ?_) (fun k h3 => ?_) (fun i hi => ?_) ?_ ?_ (fun s' hs' => ?_) ⟨x1, x2⟩, ⟨fun s' hs' => ?_, fun r hr => ?_⟩, ?_, r5, r6, e24.trans r7⟩
        · show upd (v'.2.1 3) (9 + swd s) (nI x) 17 = _
          rw [pk_un (by omega)]; exact m8'
        · rw [pu_sr2, if_neg h6, pu_sr2, if_neg h7]
        · funext i
          show (sr v' 3 (9 + swd s) (nI x)).2.1 k (hk k + i) = v.2.1 k (hk k + i)
          rw [pu_sr2, if_neg h3, e2]
        · show upd (v'.2.1 3) (9 + swd s) (nI x) (9 + i) = v.2.1 3 (9 + i)
          rw [pk_un (by omega), e2]
        · exact pk_us (f := (sr P 7 s 1).2.1 6)
        · exact pk_us (f := v'.2.1 3)
        · show upd (P.2.1 6) s (nI x) s' = P.2.1 6 s'
          rw [pk_un hs']
        · show (upd (P.2.1 7) s 1 s' = 0 ∧ bt (v'.1 16) (swd s') = false) ∨ (upd (P.2.1 7) s 1 s' = 1 ∧ bt (v'.1 16) (swd s') = true)
          have := (swd_ne s' hs').1
          rw [e16, a5 (swd s') (by omega)]
          by_cases e : s' = s
          · right; rw [e, pk_us, decide_eq_true rfl, Bool.or_true]; exact ⟨rfl, rfl⟩
          · rw [pk_un e, decide_eq_false (fun hh => e (swd_inj s' hs' s hs hh)), Bool.or_false]; exact hT.1 s' hs'
        · show ∃ x y : Nat, L.2.1 4 r = nI x ∧ L.2.1 5 r = nI y ∧ x ≤ 64 ∧ y ≤ q ∧ ((x < y ∧ bt (v'.1 16) (16 + r) = true) ∨ (¬ x < y ∧ bt (v'.1 16) (16 + r) = false))
          rw [e16, a5 (16 + r) (by omega), decide_eq_false (by omega), Bool.or_false]; exact hT.2 r hr
        · show R.1 4 = v'.1 17
          rw [e17]; exact r4
      exact LPO_pre ((a6.trans (PF_TF n3)).trans (PF_sr 3 _ _ (by omega) (by omega) (by rw [hk_3]; omega))) (by omega) (endR h hLI)
  · rw [if_neg (show ¬ P.2.1 7 s = 0 by rw [t1]; decide), t2, show (if true = true then (1 : Int32) else 0) = 1 from rfl, if_pos rfl, rf 3, pu_bnd, wrongR g6, pu_bnd]
    obtain ⟨q1, q2, q3⟩ := refR h hg 3 (by decide)
    rw [b105_f q3]
    exact ⟨0, _, P, L, _, b77_0 (N := N) _ _ _, rfl, PF_EF q2, Or.inl ⟨rfl, q1⟩⟩
theorem PR_sit {a c x y : Nat} {P L u P' u' : VV} (h : PR a c P L u) (hc : c < 3) (h0 : P'.1 0 = P.1 0) (h3 : P'.1 3 = nI (c + 1)) (h2 : ∀ k, k ≠ 4 → k ≠ 5 → P'.2.1 k = P.2.1 k) (hu : ∀ k, k ≠ 3 → k ≠ 10 → k ≠ 11 → u'.2.1 k = u.2.1 k) (hu3 : ∀ i, i ≠ 2 → u'.2.1 3 i = u.2.1 3 i) (hu2 : u'.2.1 3 2 = nI (c + 1)) (p4 : ∀ t, P'.2.1 4 t = if t = c then nI x else P.2.1 4 t) (p5 : ∀ t, P'.2.1 5 t = if t = c then nI y else P.2.1 5 t) (u10 : ∀ t, t < 3 → u'.2.1 10 t = if t = c then nI x else u.2.1 10 t) (u11 : ∀ t, t < 3 → u'.2.1 11 t = if t = c then nI y else u.2.1 11 t) (hx : x ≤ 999) (hy : y ≤ 99) : PR a (c + 1) P' L u' := by
  obtain ⟨q1, ⟨q2, q3, q4, q5⟩, q6, q7, q8, q9, q10, q11, q12⟩ := h
  refine ⟨⟨q1.1, hc⟩, ⟨by rw [h0]; exact q2, by rw [hu3 0 (by omega)]; exact q3, h3, hu2⟩, fun p hp => ?_, fun t ht => ?_, fun t h1 h2' => ?_, ?_, ?_, fun r hr => ?_, by rw [hu3 8 (by omega)]; exact q12⟩
  · have := q6 p hp
    unfold trR trB at *
    rw [h2 1 (by omega) (by omega), h2 (100 + p) (by omega) (by omega), hu 4 (by omega) (by omega) (by omega), hu 5 (by omega) (by omega) (by omega), hu 6 (by omega) (by omega) (by omega), hu 7 (by omega) (by omega) (by omega), hu 8 (by omega) (by omega) (by omega), hu 9 (by omega) (by omega) (by omega)]
    exact this
  · unfold siR siB
    rw [p4 t, p5 t, u10 t (by omega), u11 t (by omega)]
    by_cases e : t = c
    · rw [if_pos e, if_pos e, if_pos e, if_pos e]
      exact ⟨⟨rfl, rfl⟩, ⟨x, hx, rfl⟩, ⟨y, hy, rfl⟩⟩
    · rw [if_neg e, if_neg e, if_neg e, if_neg e]
      exact q7 t (by omega)
  · rw [p5 t, if_neg (by omega)]; exact q8 t (by omega) h2'
  · rw [seR_iff] at q9 ⊢
    intro s hs
    rw [h2 6 (by omega) (by omega), hu3 (swd s) (swd_ne s hs).2.2.1]; exact q9 s hs
  · rw [seB_iff] at q10 ⊢
    intro s hs
    rw [hu3 (swd s) (swd_ne s hs).2.2.1]; exact q10 s hs
  · have := q11 r hr
    unfold lawR at *
    rw [hu 12 (by omega) (by omega) (by omega), hu 13 (by omega) (by omega) (by omega), hu 14 (by omega) (by omega) (by omega), hu 15 (by omega) (by omega) (by omega)]
    exact this
theorem TB_w {q w : Nat} {P P' L v v' : VV} (h : TB q P L v) (hw : w = 0 ∨ w = 2 ∨ w = 8) (h7 : P'.2.1 7 = P.2.1 7) (h16 : ∀ i, i < 32 → bt (v'.1 16) i = (bt (v.1 16) i || decide (i = w))) : TB q P' L v' := by
  refine ⟨fun s hs => ?_, fun r hr => ?_⟩
  · obtain ⟨w8, w0, w2, _⟩ := swd_ne s hs
    rw [h7, h16 (swd s) (by omega), decide_eq_false (by omega), Bool.or_false]; exact h.1 s hs
  · rw [h16 (16 + r) (by omega), decide_eq_false (by omega), Bool.or_false]; exact h.2 r hr
theorem sitLn (h : TKS N n cnt b K E) {a c q j : Nat} {R P L v : VV} (hl : LI n cnt b K E a c q j R P L v) (hj : j < cnt) : LPO n cnt b K E j v (bnd (f_X7_readSitting R K P L) (fun y => f_X7_readLine_b77 N y.2.1 K y.2.2 L y.1)) (f_X12_line_b62 N v 2 0) := by
  obtain ⟨hg, hP, hT, r4, r5, r6, r7⟩ := id hl
  obtain ⟨⟨g1, g2, g3⟩, g4, g5, ⟨g6, g7⟩, ⟨g8, g8'⟩, ⟨g9, g10⟩, g11⟩ := id hg
  obtain ⟨kd, vd, rf⟩ := kindR h g5 g1
  have hc3 := PR_m hP
  have e11 : v.2.1 3 11 = nI c := PR_v2 hP
  unfold f_X7_readSitting f_X12_line_b62
  have fr2 : ∀ w : VV, f_X12_fresher w 2 = some (w.2.1 3 11) := fun w => fresherR w 2 (by omega)
  rw [PR_P3 hP, if_pos rfl, fr2 v, pu_bnd, e11]
  rcases Nat.lt_or_ge c 3 with hlt | hge
  · rw [if_pos (show nI (c) < (3 : Int32) from nI_lt (a := c) (b := 3) (by omega) (by omega)), if_neg (show ¬ nI (c) = (3 : Int32) from fun hq9 => absurd ((nI_eq (a := c) (b := 3) (by omega) (by omega)).mp hq9) (by omega))]
    obtain ⟨v1, a1, a2, a3, a4, a5, a6⟩ := wordNext (w := 2) h hl hj (by omega)
    unfold f_X12_line_b84
    rw [if_pos rfl]
    have e11' : v1.2.1 3 11 = nI c := by rw [a3]; exact e11
    -- what both do from here, by the least minute
    have key : ∀ lo : Nat, lo ≤ 1000 → LPO n cnt b K E j v (bnd (f_X7_readSitting_b50 (si R 2 (nI (j + 1))) K P L (nI c) (nI lo)) (fun y => f_X7_readLine_b77 N y.2.1 K y.2.2 L y.1)) (f_X12_line_b239 N v1 (nI (3 + c)) (nI lo) (nI (3 + c))) := by
      intro lo hlo
      unfold f_X7_readSitting_b50 f_X12_line_b239
      have hk10 : hk 10 = 3 := rfl
      have hk11 : hk 11 = 3 := rfl
      rcases numeralR h a2 hlo (show 999 ≤ 99999 by omega) with ⟨R', v', n1, n2, n3, n4, n5⟩ | ⟨x, v', x1, x2, x3, n1, n2, n3, n4⟩
      · have n1' : f_X7_readNumber (si R 2 (nI (j + 1))) K (nI lo) 999 = some (0, R') := n1
        have n2' : f_X12_numeral N v1 (nI lo) 999 = some (nI lo, v') := n2
        have f1 : ¬ (sr v' 10 (3 + c) (nI lo)).1 23 = 0 := n5
        rw [n1', pu_bnd, if_pos rfl, pu_bnd, b77_0, n2', pu_bnd, pu_gin (show 3 + c < 6 by omega) (show 6 < 2 ^ 31 by omega), nI_clamp (show 3 + c < 2 ^ 31 by omega)]
        dsimp only
        rw [numeral_f f1, pu_bnd, pu_gin (show 3 + c < 6 by omega) (show 6 < 2 ^ 31 by omega), show (2 : Int32) = nI 2 from rfl, fresherR _ 2 (by omega), pu_bnd, readsR _ 2 _ (by omega), pu_bnd]
        have f2 : ¬ (sr (sr (sr v' 10 (3 + c) (nI lo)) 11 (3 + c) 0) 3 (9 + 2) ((sr (sr v' 10 (3 + c) (nI lo)) 11 (3 + c) 0).2.1 3 (9 + 2) + 1)).1 23 = 0 := n5
        rw [b355_f f2]
        exact ⟨0, R', P, L, _, rfl, rfl, (((a6.trans (PF_EF n4)).trans (PF_sr 10 _ _ (by omega) (by omega) (by rw [hk10]; omega))).trans (PF_sr 11 _ _ (by omega) (by omega) (by rw [hk11]; omega))).trans (PF_sr 3 _ _ (by omega) (by omega) (by rw [hk_3]; omega)), Or.inl ⟨rfl, n3⟩⟩
      · have n1' : f_X7_readNumber (si R 2 (nI (j + 1))) K (nI lo) 999 = some (1, si (si (si R 2 (nI (j + 1))) 3 (nI x)) 2 (nI (j + 1 + 1))) := n1
        have n2' : f_X12_numeral N v1 (nI lo) 999 = some (nI x, v') := n2
        have hg2 : GS n cnt b K E 0 (j + 1 + 1) q q (si (si (si R 2 (nI (j + 1))) 3 (nI x)) 2 (nI (j + 1 + 1))) L (sr v' 10 (3 + c) (nI x)) := n4
        rw [n1', pu_bnd, if_neg (by show ¬ (1 : Int32) = 0; decide), pu_gin (show c < 3 by omega) (show 3 < 2 ^ 31 by omega), nI_clamp (show c < 2 ^ 31 by omega), n2', pu_bnd, pu_gin (show 3 + c < 6 by omega) (show 6 < 2 ^ 31 by omega), nI_clamp (show 3 + c < 2 ^ 31 by omega)]
        dsimp only
        have pf1 : PF v (sr v' 10 (3 + c) (nI x)) := (a6.trans (PF_TF n3)).trans (PF_sr 10 _ _ (by omega) (by omega) (by rw [hk10]; omega))
        rcases numeralR h hg2 (show 0 ≤ 1000 by omega) (show 99 ≤ 99999 by omega) with ⟨R2, v2, m1, m2, m3, m4, m5⟩ | ⟨y, v2, y1, y2, y3, m1, m2, m3, m4⟩
        · have m1' : f_X7_readNumber (si (si (si R 2 (nI (j + 1))) 3 (nI x)) 2 (nI (j + 1 + 1))) K 0 99 = some (0, R2) := m1
          have m2' : f_X12_numeral N (sr v' 10 (3 + c) (nI x)) 0 99 = some (0, v2) := m2
          rw [m1', pu_bnd, if_pos rfl, pu_bnd, b77_0, m2', pu_bnd, pu_gin (show 3 + c < 6 by omega) (show 6 < 2 ^ 31 by omega)]
          dsimp only
          rw [show (2 : Int32) = nI 2 from rfl, fresherR _ 2 (by omega), pu_bnd, readsR _ 2 _ (by omega), pu_bnd]
          have f2 : ¬ (sr (sr v2 11 (3 + c) 0) 3 (9 + 2) ((sr v2 11 (3 + c) 0).2.1 3 (9 + 2) + 1)).1 23 = 0 := m5
          rw [b355_f f2]
          exact ⟨0, R2, _, L, _, rfl, rfl, ((pf1.trans (PF_EF m4)).trans (PF_sr 11 _ _ (by omega) (by omega) (by rw [hk11]; omega))).trans (PF_sr 3 _ _ (by omega) (by omega) (by rw [hk_3]; omega)), Or.inl ⟨rfl, m3⟩⟩
        · have m1' : f_X7_readNumber (si (si (si R 2 (nI (j + 1))) 3 (nI x)) 2 (nI (j + 1 + 1))) K 0 99 = some (1, si (si (si (si (si R 2 (nI (j + 1))) 3 (nI x)) 2 (nI (j + 1 + 1))) 3 (nI y)) 2 (nI (j + 1 + 1 + 1))) := m1
          have m2' : f_X12_numeral N (sr v' 10 (3 + c) (nI x)) 0 99 = some (nI y, v2) := m2
          rw [m1', pu_bnd, if_neg (by show ¬ (1 : Int32) = 0; decide), pu_gin (show c < 3 by omega) (show 3 < 2 ^ 31 by omega), pu_bnd, m2', pu_bnd, pu_gin (show 3 + c < 6 by omega) (show 6 < 2 ^ 31 by omega)]
          dsimp only
          have e11b : (sr v2 11 (3 + c) (nI y)).2.1 3 (9 + 2) = nI c := by
            show v2.2.1 3 11 = nI c
            rw [m3.2]
            show v'.2.1 3 11 = nI c
            rw [n3.2]; exact e11'
          rw [show (2 : Int32) = nI 2 from rfl, fresherR _ 2 (by omega), pu_bnd, e11b, nI_1, readsR _ 2 _ (by omega), pu_bnd, PR_P3 hP, nI_1]
          have e2 : v2.2 = (sr v' 10 (3 + c) (nI x)).2 := m3.2
          have ev' : v'.2 = v.2 := n3.2.trans a3
          have es : ∀ k, k ≠ 16 → k ≠ 19 → k ≠ 20 → k ≠ 21 → k ≠ 22 → v2.1 k = v.1 k := fun k h1 h2 h3 h4 h5 => (m3.1 k h2 h3 h4 h5).trans ((n3.1 k h2 h3 h4 h5).trans (a4 k h1 h2 h3 h4 h5))
          have e16 : v2.1 16 = v1.1 16 := (m3.1 16 (by omega) (by omega) (by omega) (by omega)).trans (n3.1 16 (by omega) (by omega) (by omega) (by omega))
          have rows : ∀ k, k ≠ 3 → k ≠ 10 → k ≠ 11 → (sr (sr v2 11 (3 + c) (nI y)) 3 (9 + 2) (nI (c + 1))).2.1 k = v.2.1 k := fun k h3 h10 h11 => by
            rw [pu_sr2, if_neg h3, pu_sr2, if_neg h11, e2, pu_sr2, if_neg h10, ev']
          have hLI : LI n cnt b K E a (c + 1) q (j + 1 + 1 + 1) (si (si (si (si (si R 2 (nI (j + 1))) 3 (nI x)) 2 (nI (j + 1 + 1))) 3 (nI y)) 2 (nI (j + 1 + 1 + 1))) (si (sr (sr P 4 c (nI x)) 5 c (nI y)) 3 (nI (c + 1))) L (sr (sr v2 11 (3 + c) (nI y)) 3 (9 + 2) (nI (c + 1))) := by
            obtain ⟨k1, k4, k5, k6, ⟨k8, k8'⟩, k9, k11⟩ := id m4
            refine ⟨⟨k1, k4, k5, k6, ⟨k8, ?_⟩, k9, k11⟩, PR_sit (x := x) (y := y) hP hlt rfl rfl (fun k h4 h5 => ?_) (fun k h3 h10 h11 => ?_) (fun i hi => ?_) ?_ (fun t => ?_) (fun t => ?_) (fun t ht => ?_) (fun t ht => ?_) x2 y2, TB_w hT (Or.inr (Or.inl rfl)) rfl (fun i hi => ?_), ?_, r5, r6, (es 24 (by omega) (by omega) (by omega) (by omega) (by omega)).trans r7⟩
            · show upd (v2.2.1 3) 11 (nI (c + 1)) 17 = _
              rw [pk_un (by omega)]; exact k8'
            · show (sr (sr P 4 c (nI x)) 5 c (nI y)).2.1 k = _
              rw [pu_sr2, if_neg h5, pu_sr2, if_neg h4]
            · funext i
              show (sr (sr v2 11 (3 + c) (nI y)) 3 (9 + 2) (nI (c + 1))).2.1 k (hk k + i) = v.2.1 k (hk k + i)
              rw [rows k h3 h10 h11]
            · show upd (v2.2.1 3) 11 (nI (c + 1)) (9 + i) = v.2.1 3 (9 + i)
              rw [pk_un (by omega), e2]
              show v'.2.1 3 (9 + i) = _
              rw [ev']
            · show upd (v2.2.1 3) 11 (nI (c + 1)) 11 = _
              exact pk_us
            · show upd (P.2.1 4) c (nI x) t = _
              rw [pu_upd]
            · show upd (P.2.1 5) c (nI y) t = _
              rw [pu_upd]
            · show v2.2.1 10 (3 + t) = if t = c then nI x else v.2.1 10 (3 + t)
              rw [e2]
              show upd (v'.2.1 10) (3 + c) (nI x) (3 + t) = _
              rw [pu_upd, ev']
              by_cases e : t = c
              · rw [if_pos e, if_pos (by omega)]
              · rw [if_neg e, if_neg (by omega)]
            · show upd (v2.2.1 11) (3 + c) (nI y) (3 + t) = if t = c then nI y else v.2.1 11 (3 + t)
              rw [pu_upd, e2]
              show (if 3 + t = 3 + c then nI y else v'.2.1 11 (3 + t)) = _
              rw [ev']
              by_cases e : t = c
              · rw [if_pos e, if_pos (by omega)]
              · rw [if_neg e, if_neg (by omega)]
            · show bt (v2.1 16) i = _
              rw [e16]; exact a5 i hi
            · show R.1 4 = v2.1 17
              rw [es 17 (by omega) (by omega) (by omega) (by omega) (by omega)]; exact r4
          exact LPO_pre (((pf1.trans (PF_TF m3)).trans (PF_sr 11 _ _ (by omega) (by omega) (by rw [hk11]; omega))).trans (PF_sr 3 _ _ (by omega) (by omega) (by rw [hk_3]; omega))) (by omega) (endR h hLI)
    unfold f_X12_line_b105
    have a1' : f_X12_token N (si v 16 (v.1 16 ||| ((1 : Int32) <<< ((2 : Int32) &&& 31)))) = some v1 := a1
    rw [if_pos g6, a1', pu_bnd, if_neg (show ¬ (2 : Int32) = 0 by decide), if_neg (show ¬ (2 : Int32) = 1 by decide), if_pos (show (2 : Int32) = 2 from rfl), fr2 v1, pu_bnd, e11', show (3 : Int32) + nI c = nI (3 + c) from nI_add 3 c, g5, nI_1]
    rcases Nat.eq_zero_or_pos c with hz | hpos
    · rw [if_pos (show nI c ≤ 0 by rw [hz]; decide), if_pos (show nI (3 + c) = 3 by rw [hz]; rfl)]
      exact key 0 (by omega)
    · obtain ⟨c', rfl⟩ : ∃ c', c = c' + 1 := ⟨c - 1, by omega⟩
      obtain ⟨y, hy, ey⟩ := (PR_sB hP (show c' < c' + 1 by omega)).1
      have ey' : v1.2.1 10 (3 + c') = nI y := by rw [a3]; exact ey
      have eP : P.2.1 4 c' = nI y := by rw [(PR_sR hP (show c' < c' + 1 by omega)).1]; exact ey
      rw [if_neg (nI_nle (by omega) (by omega)), nI_pred, pu_gin (show c' < 3 by omega) (show 3 < 2 ^ 31 by omega), nI_clamp (show c' < 2 ^ 31 by omega), eP, nI_1, if_neg (show ¬ nI (3 + (c' + 1)) = (3 : Int32) from fun hq9 => absurd ((nI_eq (a := 3 + (c' + 1)) (b := 3) (by omega) (by omega)).mp hq9) (by omega)), show 3 + (c' + 1) = 3 + c' + 1 by omega, nI_pred, pu_gin (show 3 + c' < 6 by omega) (show 6 < 2 ^ 31 by omega), nI_clamp (show 3 + c' < 2 ^ 31 by omega), ey', nI_1, show 3 + c' + 1 = 3 + (c' + 1) by omega]
      exact key (y + 1) (by omega)
  · have : c = 3 := by omega
    subst this
    obtain ⟨q1, q2, q3⟩ := refR h hg 2 (by decide)
    rw [if_neg (show ¬ nI 3 < 3 by decide), if_pos (show nI 3 = 3 from rfl), rf 2, pu_bnd]
    unfold f_X12_line_b76
    rw [wrongR g6, pu_bnd, b105_f q3]
    exact ⟨0, _, P, L, _, b77_0 (N := N) _ _ _, rfl, PF_EF q2, Or.inl ⟨rfl, q1⟩⟩
