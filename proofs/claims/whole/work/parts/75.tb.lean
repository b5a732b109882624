/-! text: laws and parties -/
variable {N n cnt : Nat} {b : Nat → Nat} {K : VV} {E : Nat → Nat}
theorem law_w : ∀ j, j < 22 → (∃ r, r < 3 ∧ nI (32 + pm j) = nI (41 + r) ∧ nI j = nI (9 + r)) ∨ ((nI (32 + pm j) - 41 < 0 ∨ ¬ nI (32 + pm j) - 41 < 3) ∧ (nI j < 9 ∨ ¬ nI j ≤ 11)) := by decide +kernel
theorem law_view {k vl s w : Int32} (h : tokR k vl s w) : (∃ r, r < 3 ∧ k = nI (41 + r) ∧ s = 0 ∧ w = nI (9 + r)) ∨ ((k - 41 < 0 ∨ ¬ k - 41 < 3) ∧ ¬ (s = 0 ∧ ¬ w < 9 ∧ w ≤ 11)) := by
  rcases h with ⟨rfl, rfl⟩ | ⟨rfl, rfl⟩ | ⟨rfl, rfl, h⟩ | ⟨rfl, rfl, _⟩ | ⟨rfl, h, h44, h45⟩ | ⟨rfl, j, hj, rfl, rfl⟩
  · exact Or.inr ⟨by decide, fun h => absurd h.1 (by decide)⟩
  · exact Or.inr ⟨by decide, fun h => absurd h.1 (by decide)⟩
  · exact Or.inr ⟨by decide, fun h => absurd h.1 (by decide)⟩
  · exact Or.inr ⟨by decide, fun h => absurd h.1 (by decide)⟩
  · refine Or.inr ⟨?_, fun h => absurd h.1 (by decide)⟩
    rcases h with ⟨rfl, rfl⟩ | ⟨rfl, rfl⟩ | ⟨rfl, rfl⟩ | h
    · decide
    · decide
    · decide
    · rcases h with ⟨rfl, rfl⟩ | ⟨rfl, rfl⟩ | ⟨rfl, rfl⟩ | ⟨rfl, rfl⟩ | ⟨rfl, rfl⟩ | ⟨rfl, rfl⟩ | ⟨rfl, rfl⟩ | ⟨rfl, rfl⟩ | ⟨rfl, rfl⟩ | ⟨rfl, rfl⟩ | ⟨rfl, rfl⟩ | ⟨rfl, rfl⟩
      all_goals first | decide | exact absurd rfl h44 | exact absurd rfl h45
  · rcases law_w j hj with ⟨r, hr, a1, a2⟩ | ⟨a1, a2⟩
    · exact Or.inl ⟨r, hr, a1, rfl, a2⟩
    · refine Or.inr ⟨a1, fun h => ?_⟩
      rcases a2 with a2 | a2
      · exact h.2.1 a2
      · exact a2 h.2.2
theorem PR_lw {a c : Nat} {P L u L' u' : VV} (h : PR a c P L u) (hu : ∀ k, k ≠ 3 → k ≠ 12 → k ≠ 13 → k ≠ 14 → k ≠ 15 → u'.2.1 k = u.2.1 k) (hu3 : ∀ i, i ≠ 8 → u'.2.1 3 i = u.2.1 3 i) (hl : ∀ r, r < 3 → lawR L' u' r) (h8 : L'.1 3 = u'.2.1 3 8) : PR a c P L' u' := by
  obtain ⟨q1, ⟨q2, q3, q4, q5⟩, q6, q7, q8, q9, q10, q11, q12⟩ := h
  refine ⟨q1, ⟨q2, by rw [hu3 0 (by omega)]; exact q3, q4, by rw [hu3 2 (by omega)]; exact q5⟩, fun p hp => ?_, fun t ht => ?_, q8, ?_, ?_, hl, h8⟩
  · have := q6 p hp
    unfold trR trB at *
    rw [hu 4 (by omega) (by omega) (by omega) (by omega) (by omega), hu 5 (by omega) (by omega) (by omega) (by omega) (by omega), hu 6 (by omega) (by omega) (by omega) (by omega) (by omega), hu 7 (by omega) (by omega) (by omega) (by omega) (by omega), hu 8 (by omega) (by omega) (by omega) (by omega) (by omega), hu 9 (by omega) (by omega) (by omega) (by omega) (by omega)]
    exact this
  · have := q7 t ht
    unfold siR siB at *
    rw [hu 10 (by omega) (by omega) (by omega) (by omega) (by omega), hu 11 (by omega) (by omega) (by omega) (by omega) (by omega)]
    exact this
  · rw [seR_iff] at q9 ⊢
    intro s hs
    rw [hu3 (swd s) (by have := (swd_ne s hs).1; omega)]; exact q9 s hs
  · rw [seB_iff] at q10 ⊢
    intro s hs
    rw [hu3 (swd s) (by have := (swd_ne s hs).1; omega)]; exact q10 s hs
theorem lawLine_f {v : VV} (h : ¬ v.1 23 = 0) : f_X12_lawLine_b30 N v = some v := by
  unfold f_X12_lawLine_b30 f_X12_lawLine_b65
  rw [if_neg h, if_neg h]
theorem lawLn (h : TKS N n cnt b K E) (hN : 2000 < N) {a c q j : Nat} {R P L v : VV} (hl : LI n cnt b K E a c q j R P L v) (hj : j < cnt) : LPO n cnt b K E j v (bnd (f_X7_readLaw N R K P L) (fun y => f_X7_readLine_b77 N y.2.1 K P y.2.2 y.1)) (f_X12_line_b105 N v 8) := by
  obtain ⟨hg, hP, hT, r4, r5, r6, r7⟩ := id hl
  obtain ⟨⟨g1, g2, g3⟩, g4, g5, ⟨g6, g7⟩, ⟨g8, g8'⟩, ⟨g9, g10⟩, g11⟩ := id hg
  obtain ⟨v1, a1, a2, a3, a4, a5, a6⟩ := wordNext (w := 8) h hl hj (by omega)
  have a1' : f_X12_token N (si v 16 (v.1 16 ||| ((1 : Int32) <<< ((8 : Int32) &&& 31)))) = some v1 := a1
  obtain ⟨⟨b1, b2, b3⟩, b4, b5, ⟨b6, b7⟩, ⟨b8, b8'⟩, ⟨b9, b10⟩, b11⟩ := id a2
  obtain ⟨kd, vd, rf⟩ := kindR h b5 b1
  unfold f_X12_line_b105
  rw [if_pos g6, a1', pu_bnd, if_neg (show ¬ (8 : Int32) = 0 by decide), if_neg (show ¬ (8 : Int32) = 1 by decide), if_neg (show ¬ (8 : Int32) = 2 by decide), if_neg (show ¬ (8 : Int32) = 3 by decide), if_neg (show ¬ (8 : Int32) = 4 by decide), if_neg (show ¬ (8 : Int32) = 5 by decide), if_neg (show ¬ (8 : Int32) = 6 by decide), if_neg (show ¬ (8 : Int32) = 7 by decide)]
  unfold f_X7_readLaw
  rw [g5, nI_1, kd, pu_bnd]
  rcases law_view b4.2.2.2 with ⟨r, hr, k1, k2, k3⟩ | ⟨k1, k2⟩
  · -- a rule
    have hj1 : j + 1 < cnt := by
      rcases Nat.lt_or_ge (j + 1) cnt with hh | hh
      · exact hh
      · have e : j + 1 = cnt := by omega
        rw [e, h.2.2.2.2.2] at k1
        exact absurd k1.symm (nI_ne0 (by omega) (by omega))
    have e41 : nI (41 + r) - 41 = nI r := by rw [show (41 : Int32) = nI 41 from rfl, pk_sub (by omega), show 41 + r - 41 = r by omega]
    have e9 : nI (9 + r) - 9 = nI r := by rw [show (9 : Int32) = nI 9 from rfl, pk_sub (by omega), show 9 + r - 9 = r by omega]
    rw [k1, e41, if_neg (nI_pos (show r < 2 ^ 31 by omega)), if_pos (show nI (r) < (3 : Int32) from nI_lt (a := r) (b := 3) (by omega) (by omega))]
    unfold f_X3_isTold f_X12_lawLine
    rw [if_neg (nI_pos (show r < 2 ^ 31 by omega)), if_neg (show ¬ (3 : Int32) ≤ nI (r) from nI_ge (a := r) (b := 3) (by omega) (by omega)), pu_gin (show r < 3 by omega) (show 3 < 2 ^ 31 by omega), pu_gin (show r < 3 by omega) (show 3 < 2 ^ 31 by omega), nI_clamp (show r < 2 ^ 31 by omega), if_pos k2, k3, if_neg (show ¬ nI (9 + r) < (9 : Int32) from nI_nlt (a := 9 + r) (b := 9) (by omega) (by omega)), if_pos (show nI (9 + r) ≤ (11 : Int32) from nI_le (a := 9 + r) (b := 11) (by omega) (by omega))]
    unfold f_X12_lawLine_b30
    rw [if_pos b6, k3, e9, show (16 : Int32) + nI r = nI (16 + r) from nI_add 16 r, pu_bit (v1.1 16) (show 16 + r < 31 by omega), a5 (16 + r) (by omega), decide_eq_false (show ¬ 16 + r = 8 by omega), Bool.or_false]
    obtain ⟨x, y, x1, x2, x3, x4, x5⟩ := hT.2 r hr
    have hq := hg.1.2.2
    rw [x1, x2]
    rcases x5 with ⟨x6, x7⟩ | ⟨x6, x7⟩
    · -- told already
      obtain ⟨q1, q2, q3⟩ := refR h a2 3 (by decide)
      rw [if_neg (nI_ge x6 (by omega)), pu_bnd, if_neg (show ¬ (1 : Int32) = 0 by decide), x7, show (if true = true then (1 : Int32) else 0) = 1 from rfl, if_pos rfl, rf 3, pu_bnd, wrongR b6, pu_bnd]
      unfold f_X12_lawLine_b65
      rw [if_neg q3, pu_bnd, b355_f q3]
      exact ⟨0, _, P, L, _, b77_0 (N := N) _ _ _, rfl, a6.trans (PF_EF q2), Or.inl ⟨rfl, q1⟩⟩
    · rw [if_pos (nI_le (by omega) (by omega)), pu_bnd, if_pos rfl, x7, show (if false = true then (1 : Int32) else 0) = 0 from rfl, if_neg (show ¬ (0 : Int32) = 1 by decide)]
      unfold f_X12_lawLine_b65
      rw [if_pos b6, show (16 : Int32) + nI r = nI (16 + r) from nI_add 16 r, show (3 : Int32) + nI r = nI (3 + r) from nI_add 3 r]
      have ha : AT n b K E (j + 1) (si v1 16 (v1.1 16 ||| ((1 : Int32) <<< (nI (16 + r) &&& 31)))) := b4
      obtain ⟨v2, c1, c2, c3⟩ := AT_next h ha hj1
      have ev2 : v2.2 = v.2 := c2.2.trans a3
      have e17 : v2.2.1 3 17 = nI q := by rw [ev2]; exact g8'
      have fr8 : ∀ w : VV, f_X12_fresher w 8 = some (w.2.1 3 17) := fun w => fresherR w 8 (by omega)
      rw [c1, pu_bnd, fr8, pu_bnd, pu_gin (show 3 + r < 6 by omega) (show 6 < 2 ^ 31 by omega), nI_clamp (show 3 + r < 2 ^ 31 by omega), e17]
      have hg2 : GS n cnt b K E 0 (j + 1 + 1) q q (si (si R 2 (nI (j + 1))) 2 (nI (j + 1 + 1))) L (sr v2 12 (3 + r) (nI q)) := ⟨⟨hj1, g2, g3⟩, c3, rfl, ⟨(c2.1 23 (by omega) (by omega) (by omega) (by omega)).trans b6, (c2.1 27 (by omega) (by omega) (by omega) (by omega)).trans b7⟩, ⟨g8, e17⟩, ⟨g9, (c2.1 28 (by omega) (by omega) (by omega) (by omega)).trans b10⟩, fun i hi => by show kc _ _ (v2.2.1 14 (64 + i)) (v2.2.1 15 (64 + i)); rw [ev2]; exact g11 i hi⟩
      have hk12 : hk 12 = 3 := rfl
      have hk13 : hk 13 = 3 := rfl
      have pf2 : PF v (sr v2 12 (3 + r) (nI q)) := ((a6.trans (PF_si 16 _ (by omega))).trans (PF_TF c2)).trans (PF_sr 12 _ _ (by omega) (by omega) (by rw [hk12]; omega))
      obtain ⟨z, R', L', v', p1, p2, p3, p4⟩ := (exprR h hN P 9 0 10 70 rfl (by omega) (by omega) (by omega)).1 _ _ _ _ _ _ hg2
      have p1' : f_X7_readRank N 70 (si (si R 2 (nI (j + 1))) 2 (nI (j + 1) + 1)) K P L 1 0 = some (z, R', L') := by rw [nI_1]; exact p1
      rw [p1', pu_bnd, p2, pu_bnd, fr8, pu_bnd, pu_gin (show 3 + r < 6 by omega) (show 6 < 2 ^ 31 by omega), pu_bnd]
      rcases p4 with ⟨rfl, p5⟩ | ⟨rfl, j', l', q', p5, p6, p7, p8, p9, p10⟩
      · have hf : ¬ v'.1 23 = 0 := by rw [p5.1]; exact p5.2.1
        have hf2 : ¬ (sr v' 13 (3 + r) (v'.2.1 3 17)).1 23 = 0 := hf
        rw [if_pos rfl, pu_bnd, b355_f hf2]
        exact ⟨0, R', P, L', _, b77_0 (N := N) _ _ _, rfl, (pf2.trans (PF_EF p3)).trans (PF_sr 13 _ _ (by omega) (by omega) (by rw [hk13]; omega)), Or.inl ⟨rfl, p5⟩⟩
      · obtain ⟨⟨m1, m2, m3⟩, m4, m5, ⟨m6, m7⟩, ⟨m8, m8'⟩, ⟨m9, m10⟩, m11⟩ := id p5
        have hlq : l' = q' := by omega
        subst hlq
        unfold f_X3_tell
        rw [if_neg (by show ¬ (1 : Int32) = 0; decide), if_neg (nI_pos (show r < 2 ^ 31 by omega)), if_neg (show ¬ (3 : Int32) ≤ nI (r) from nI_ge (a := r) (b := 3) (by omega) (by omega)), pu_gin (show r < 3 by omega) (show 3 < 2 ^ 31 by omega), nI_clamp (show r < 2 ^ 31 by omega), pu_gin (show r < 3 by omega) (show 3 < 2 ^ 31 by omega), pu_bnd, pu_bnd, m8', g8]
        dsimp only
        rw [m8]
        have e16 : v'.1 16 = v1.1 16 ||| ((1 : Int32) <<< (nI (16 + r) &&& 31)) := (p3.1 16 (by omega)).trans (c2.1 16 (by omega) (by omega) (by omega) (by omega))
        have b16 : ∀ i, i < 32 → bt (v'.1 16) i = (bt (v.1 16) i || decide (i = 8) || decide (i = 16 + r)) := fun i hi => by rw [e16, pu_sets (v1.1 16) (by omega) hi, a5 i hi]
        have rows : ∀ k, k ≠ 3 → k ≠ 12 → k ≠ 13 → k ≠ 14 → k ≠ 15 → (sr v' 13 (3 + r) (nI l')).2.1 k = v.2.1 k := fun k h3 h12 h13 h14 h15 => by
          rw [pu_sr2, if_neg h13, p3.2.1 k h3 h14 h15, pu_sr2, if_neg h12, ev2]
        have low : ∀ i, i < q → (L'.2.1 0 i = L.2.1 0 i ∧ L'.2.1 1 i = L.2.1 1 i) ∧ v'.2.1 14 (64 + i) = v.2.1 14 (64 + i) ∧ v'.2.1 15 (64 + i) = v.2.1 15 (64 + i) := fun i hi => by
          refine ⟨p9.2.2.2.1 i hi, ?_, ?_⟩
          · rw [(p9.2.2.2.2.2 i hi).1]; show v2.2.1 14 (64 + i) = _; rw [ev2]
          · rw [(p9.2.2.2.2.2 i hi).2]; show v2.2.1 15 (64 + i) = _; rw [ev2]
        have hLI : LI n cnt b K E a c l' j' R' P (sr (sr L' 4 r (nI q)) 5 r (nI l')) (sr v' 13 (3 + r) (nI l')) := by
          refine ⟨⟨⟨m1, m2, m3⟩, m4, m5, ⟨m6, m7⟩, ⟨m8, m8'⟩, ⟨m9, m10⟩, m11⟩, PR_lw hP (fun k h3 h12 h13 h14 h15 => ?_) (fun i hi => ?_) (fun r' hr' => ?_) ?_, ⟨fun s hs => ?_, fun r' hr' => ?_⟩, ?_, ?_, ?_, ?_⟩
          · funext i
            show (sr v' 13 (3 + r) (nI l')).2.1 k (hk k + i) = v.2.1 k (hk k + i)
            rw [rows k h3 h12 h13 h14 h15]
          · show v'.2.1 3 (9 + i) = v.2.1 3 (9 + i)
            rw [p3.2.2.1 (9 + i) (by omega)]
            show v2.2.1 3 (9 + i) = _
            rw [ev2]
          · by_cases e : r' = r
            · subst e
              refine ⟨q, l', ?_, ?_, ?_, ?_, by omega, m3, fun _ => ?_, fun i h1 h2 => ?_⟩
              · show upd (L'.2.1 4) r' (nI q) r' = nI q
                rw [pk_us]
              · show v'.2.1 12 (3 + r') = nI q
                rw [p3.2.1 12 (by omega) (by omega) (by omega)]
                show upd (v2.2.1 12) (3 + r') (nI q) (3 + r') = nI q
                rw [pk_us]
              · exact pk_us (f := (sr L' 4 r' (nI q)).2.1 5)
              · exact pk_us (f := v'.2.1 13)
              · exact p10 0
              · exact m11 i h2
            · obtain ⟨x', y', w1, w2, w3, w4, w5, w6, w7, w8⟩ := PR_law hP hr'
              obtain ⟨x'', y'', u1, u2, u3, u4, _⟩ := hT.2 r' hr'
              have eyy : y' = y'' := (nI_eq (by omega) (by omega)).mp (w3.symm.trans u2)
              refine ⟨x', y', ?_, ?_, ?_, ?_, w5, w6, fun hh => ?_, fun i h1 h2 => ?_⟩
              · show upd (L'.2.1 4) r (nI q) r' = nI x'
                rw [pk_un e, p9.2.2.1 4 (by omega) (by omega)]; exact w1
              · show v'.2.1 12 (3 + r') = nI x'
                rw [p3.2.1 12 (by omega) (by omega) (by omega)]
                show upd (v2.2.1 12) (3 + r) (nI q) (3 + r') = nI x'
                rw [pk_un (by omega), ev2]; exact w2
              · show upd (L'.2.1 5) r (nI l') r' = nI y'
                rw [pk_un e, p9.2.2.1 5 (by omega) (by omega)]; exact w3
              · show upd (v'.2.1 13) (3 + r) (nI l') (3 + r') = nI y'
                rw [pk_un (by omega), p3.2.1 13 (by omega) (by omega) (by omega)]
                show v2.2.1 13 (3 + r') = nI y'
                rw [ev2]; exact w4
              · show dep (L'.2.1 0) (y' - x') x' 0 = some 1
                rw [dep_c (Q := L.2.1 0) (y' - x') x' 0 (fun i h1 h2 => (low i (by omega)).1.1)]; exact w7 hh
              · obtain ⟨⟨l0, l1⟩, l14, l15⟩ := low i (by omega)
                show kc (L'.2.1 0 i) (L'.2.1 1 i) (v'.2.1 14 (64 + i)) (v'.2.1 15 (64 + i))
                rw [l0, l1, l14, l15]; exact w8 i h1 h2
          · show L'.1 3 = v'.2.1 3 17
            rw [m9, m8']
          · have := (swd_ne s hs).1
            show (P.2.1 7 s = 0 ∧ bt (v'.1 16) (swd s) = false) ∨ (P.2.1 7 s = 1 ∧ bt (v'.1 16) (swd s) = true)
            rw [b16 (swd s) (by omega), decide_eq_false (by omega), decide_eq_false (by omega), Bool.or_false, Bool.or_false]; exact hT.1 s hs
          · show ∃ x y : Nat, upd (L'.2.1 4) r (nI q) r' = nI x ∧ upd (L'.2.1 5) r (nI l') r' = nI y ∧ x ≤ 64 ∧ y ≤ l' ∧ ((x < y ∧ bt (v'.1 16) (16 + r') = true) ∨ (¬ x < y ∧ bt (v'.1 16) (16 + r') = false))
            rw [b16 (16 + r') (by omega), decide_eq_false (show ¬ 16 + r' = 8 by omega), Bool.or_false]
            by_cases e : r' = r
            · subst e
              rw [pk_us, pk_us, decide_eq_true rfl, Bool.or_true]
              exact ⟨q, l', rfl, rfl, by omega, Nat.le_refl _, Or.inl ⟨by omega, rfl⟩⟩
            · rw [pk_un e, pk_un e, decide_eq_false (by omega), Bool.or_false, p9.2.2.1 4 (by omega) (by omega), p9.2.2.1 5 (by omega) (by omega)]
              obtain ⟨x'', y'', u1, u2, u3, u4, u5⟩ := hT.2 r' hr'
              exact ⟨x'', y'', u1, u2, u3, by omega, u5⟩
          · rw [p9.1 4 (by omega) (by omega)]
            show R.1 4 = v'.1 17
            rw [p3.1 17 (by omega)]
            show R.1 4 = v2.1 17
            rw [c2.1 17 (by omega) (by omega) (by omega) (by omega)]
            show R.1 4 = v1.1 17
            rw [a4 17 (by omega) (by omega) (by omega) (by omega) (by omega)]; exact r4
          · rw [p9.1 5 (by omega) (by omega)]; exact r5
          · rw [p9.1 6 (by omega) (by omega)]; exact r6
          · show v'.1 24 = -1
            rw [p9.2.2.2.2.1]
            show v2.1 24 = -1
            rw [c2.1 24 (by omega) (by omega) (by omega) (by omega)]
            show v1.1 24 = -1
            rw [a4 24 (by omega) (by omega) (by omega) (by omega) (by omega)]; exact r7
        exact LPO_pre ((pf2.trans (PF_EF p3)).trans (PF_sr 13 _ _ (by omega) (by omega) (by rw [hk13]; omega))) (by omega) (endR h hLI)
  · -- none
    obtain ⟨q1, q2, q3⟩ := refR h a2 1 (by decide)
    have cl : (if K.2.1 0 (j + 1) - 41 < 0 then f_X7_readLaw_b27 N (si R 2 (nI (j + 1))) K P L else if K.2.1 0 (j + 1) - 41 < 3 then bnd (f_X3_isTold L (K.2.1 0 (j + 1) - 41)) (fun q3 => if q3 = 0 then bnd (f_X7_readRank N 70 (si (si R 2 (nI (j + 1))) 2 (nI (j + 1) + 1)) K P L 1 0) (fun q5 => if q5.1 = 0 then some (0, q5.2.1, q5.2.2) else bnd (f_X3_tell q5.2.2 (K.2.1 0 (j + 1) - 41) (L.1 2)) (fun q7 => some (1, q5.2.1, q7))) else bnd (f_X7_refuse (si R 2 (nI (j + 1))) K 3) (fun q9 => gbz q9.1 (some (q9.1, q9.2, L)))) else f_X7_readLaw_b27 N (si R 2 (nI (j + 1))) K P L) = f_X7_readLaw_b27 N (si R 2 (nI (j + 1))) K P L := by
      rcases k1 with k1 | k1
      · rw [if_pos k1]
      · rw [if_neg k1, ite_self]
    rw [cl]
    unfold f_X7_readLaw_b27 f_X12_lawLine f_X12_lawLine_b25
    rw [rf 1, pu_bnd, wrongR b6, pu_bnd, lawLine_f q3]
    have rl : (if v1.1 21 = 0 then if v1.1 22 < 9 then some (si (si v1 23 1) 24 (v1.1 20)) else if v1.1 22 ≤ 11 then f_X12_lawLine_b30 N v1 else some (si (si v1 23 1) 24 (v1.1 20)) else some (si (si v1 23 1) 24 (v1.1 20))) = some (si (si v1 23 1) 24 (v1.1 20)) := by
      by_cases e1 : v1.1 21 = 0
      · rw [if_pos e1]
        by_cases e2 : v1.1 22 < 9
        · rw [if_pos e2]
        · rw [if_neg e2, if_neg (fun e3 => k2 ⟨e1, e2, e3⟩)]
      · rw [if_neg e1]
    rw [rl, pu_bnd, b355_f q3]
    exact ⟨0, _, P, L, _, b77_0 (N := N) _ _ _, rfl, a6.trans (PF_EF q2), Or.inl ⟨rfl, q1⟩⟩
