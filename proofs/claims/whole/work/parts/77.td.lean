/-! text: a party; any line -/
variable {N n cnt : Nat} {b : Nat → Nat} {K : VV} {E : Nat → Nat}
theorem own_view {k vl s w : Int32} (h : tokR k vl s w) : (k = 3 ∧ s = 1 ∧ vl = w) ∨ (¬ k = 3 ∧ ¬ s = 1) := by
  rcases h with ⟨rfl, rfl⟩ | ⟨rfl, rfl⟩ | ⟨rfl, rfl, h⟩ | ⟨rfl, rfl, h⟩ | ⟨rfl, h, h44, h45⟩ | ⟨rfl, j, hj, rfl, rfl⟩
  · exact Or.inr ⟨by decide, by decide⟩
  · exact Or.inr ⟨by decide, by decide⟩
  · exact Or.inr ⟨by decide, by decide⟩
  · exact Or.inl ⟨rfl, rfl, h⟩
  · refine Or.inr ⟨?_, by decide⟩
    rcases h with ⟨rfl, rfl⟩ | ⟨rfl, rfl⟩ | ⟨rfl, rfl⟩ | h
    · decide
    · decide
    · decide
    · rcases h with ⟨rfl, rfl⟩ | ⟨rfl, rfl⟩ | ⟨rfl, rfl⟩ | ⟨rfl, rfl⟩ | ⟨rfl, rfl⟩ | ⟨rfl, rfl⟩ | ⟨rfl, rfl⟩ | ⟨rfl, rfl⟩ | ⟨rfl, rfl⟩ | ⟨rfl, rfl⟩ | ⟨rfl, rfl⟩ | ⟨rfl, rfl⟩ <;> decide
  · exact Or.inr ⟨(by decide +kernel : ∀ j, j < 22 → ¬ nI (32 + pm j) = 3) j hj, by decide⟩
theorem numFound (N : Nat) (hN : 2000 < N) {a : Nat} {P v : VV} (ha : a ≤ 8) (h0 : P.1 0 = nI a) (hr : ∀ p, p < a → P.2.1 1 p = v.2.1 4 (8 + p)) (x : Int32) : ∃ r, f_X6_numberOf N P x = some r ∧ f_X12_found N v 8 (nI a) x = some r := by
  unfold f_X6_numberOf f_X12_found
  obtain ⟨r, r', h1, h2, h3⟩ := itr2 (A := fun q : Int32 => f_X6_numberOf_s2 N P x q) (B := fun q : Int32 => f_X12_found_s3 N v 8 (nI a) x q) (fun m s s' => ∃ i, m = a - i ∧ i ≤ a ∧ s = nI i ∧ s' = nI i) (fun r r' => r = r') (by
    intro m s s' hR
    obtain ⟨i, hm, hi, rfl, rfl⟩ := hR
    unfold f_X6_numberOf_s2 f_X12_found_s3
    rw [h0]
    rcases Nat.lt_or_ge i a with hlt | hge
    · have e : (8 : Int32) + nI i = nI (8 + i) := nI_add 8 i
      rw [if_neg (nI_ge hlt (by omega)), if_neg (nI_ge hlt (by omega)), pu_gin (show i < 8 by omega) (show 8 < 2 ^ 31 by omega), nI_clamp (show i < 2 ^ 31 by omega), e, pu_gin (show 8 + i < 16 by omega) (show 16 < 2 ^ 31 by omega), nI_clamp (show 8 + i < 2 ^ 31 by omega), hr i hlt, nI_1]
      by_cases c : v.2.1 4 (8 + i) = x
      · right; simp only [if_pos c, pu_inrO]; exact ⟨_, _, rfl, rfl, rfl⟩
      · left; simp only [if_neg c]; exact ⟨a - (i + 1), _, _, by omega, rfl, rfl, i + 1, rfl, hlt, rfl, rfl⟩
    · right
      have : i = a := by omega
      subst this
      simp only [if_pos (nI_le (Nat.le_refl i) (show i < 2 ^ 31 by omega)), pu_inrO]
      exact ⟨_, _, rfl, rfl, rfl⟩) N a 0 0 (by omega) ⟨0, rfl, by omega, rfl, rfl⟩
  subst h3
  exact ⟨r, h1, h2⟩
theorem PR_pty {a c : Nat} {P L u P' u' : VV} (h : PR a c P L u) (ha : a < 8) (h0 : P'.1 0 = nI (a + 1)) (h3 : P'.1 3 = P.1 3) (h2 : ∀ k, k ≠ 1 → k ≠ 100 + a → P'.2.1 k = P.2.1 k) (hp1 : ∀ p, p < a → P'.2.1 1 p = P.2.1 1 p) (hu : ∀ k, k < 3 ∨ 9 < k → u'.2.1 k = u.2.1 k) (hu3 : ∀ i, i ≠ 0 → u'.2.1 3 i = u.2.1 3 i) (hu0 : u'.2.1 3 0 = nI (a + 1)) (hlo : ∀ k p, k = 4 ∨ k = 5 ∨ k = 7 ∨ k = 8 ∨ k = 9 → p < a → u'.2.1 k p = u.2.1 k p) (hlo6 : ∀ i, i < 3 * a → u'.2.1 6 i = u.2.1 6 i) (hn : trR P' u' a ∧ trB u' a) : PR (a + 1) c P' L u' := by
  obtain ⟨q1, ⟨q2, q3, q4, q5⟩, q6, q7, q8, q9, q10, q11, q12⟩ := h
  refine ⟨⟨ha, q1.2⟩, ⟨h0, hu0, by rw [h3]; exact q4, by rw [hu3 2 (by omega)]; exact q5⟩, fun p hp => ?_, fun t ht => ?_, fun t h1 h2' => by rw [h2 5 (by omega) (by omega)]; exact q8 t h1 h2', ?_, ?_, fun r hr => ?_, by rw [hu3 8 (by omega)]; exact q12⟩
  · by_cases e : p = a
    · rw [e]; exact hn
    · have hpa : p < a := by omega
      have := q6 p hpa
      obtain ⟨⟨t1, t2, t3, t4, t5, t6⟩, s1, s2, s3, s4, s5⟩ := this
      have e5 := hlo 5 p (by omega) hpa
      have e7 := hlo 7 p (by omega) hpa
      have e8 := hlo 8 p (by omega) hpa
      have e9 := hlo 9 p (by omega) hpa
      refine ⟨⟨by rw [hp1 p hpa, hlo 4 p (by omega) hpa]; exact t1, by rw [h2 (100 + p) (by omega) (by omega), e5]; exact t2, fun t ht => by rw [h2 (100 + p) (by omega) (by omega), hlo6 (3 * p + t) (by omega)]; exact t3 t ht, by rw [h2 (100 + p) (by omega) (by omega), e7]; exact t4, by rw [h2 (100 + p) (by omega) (by omega), e8]; exact t5, by rw [h2 (100 + p) (by omega) (by omega), e9]; exact t6⟩, by rw [e5]; exact s1, fun t ht => by rw [hlo6 (3 * p + t) (by omega)]; exact s2 t ht, by rw [e7]; exact s3, by rw [e8]; exact s4, by rw [e9]; exact s5⟩
  · have := q7 t ht
    unfold siR siB at *
    rw [h2 4 (by omega) (by omega), h2 5 (by omega) (by omega), hu 10 (by omega), hu 11 (by omega)]
    exact this
  · rw [seR_iff] at q9 ⊢
    intro s hs
    rw [h2 6 (by omega) (by omega), hu3 (swd s) (swd_ne s hs).2.1]; exact q9 s hs
  · rw [seB_iff] at q10 ⊢
    intro s hs
    rw [hu3 (swd s) (swd_ne s hs).2.1]; exact q10 s hs
  · have := q11 r hr
    unfold lawR at *
    rw [hu 12 (by omega), hu 13 (by omega), hu 14 (by omega), hu 15 (by omega)]
    exact this
theorem ptyLn (h : TKS N n cnt b K E) (hN : 2000 < N) {a c q j : Nat} {R P L v : VV} (hl : LI n cnt b K E a c q j R P L v) (hj : j < cnt) : LPO n cnt b K E j v (bnd (f_X7_readParty N R K P L) (fun y => f_X7_readLine_b77 N y.2.1 K y.2.2 L y.1)) (f_X12_line_b47 N v 0 0) := by
  obtain ⟨hg, hP, hT, r4, r5, r6, r7⟩ := id hl
  obtain ⟨⟨g1, g2, g3⟩, g4, g5, ⟨g6, g7⟩, ⟨g8, g8'⟩, ⟨g9, g10⟩, g11⟩ := id hg
  obtain ⟨kd, vd, rf⟩ := kindR h g5 g1
  have ha8 := PR_n hP
  have e9 : v.2.1 3 9 = nI a := PR_v0 hP
  have fr0 : ∀ w : VV, f_X12_fresher w 0 = some (w.2.1 3 9) := fun w => fresherR w 0 (by omega)
  have hk4 : hk 4 = 8 := rfl
  unfold f_X7_readParty f_X12_line_b47
  rw [PR_P0 hP, if_pos rfl, fr0 v, pu_bnd, e9]
  rcases Nat.lt_or_ge a 8 with hlt | hge
  · rw [if_pos (show nI (a) < (8 : Int32) from nI_lt (a := a) (b := 8) (by omega) (by omega)), if_neg (show ¬ nI (a) = (8 : Int32) from fun hq9 => absurd ((nI_eq (a := a) (b := 8) (by omega) (by omega)).mp hq9) (by omega))]
    obtain ⟨v1, a1, a2, a3, a4, a5, a6⟩ := wordNext (w := 0) h hl hj (by omega)
    have a1' : f_X12_token N (si v 16 (v.1 16 ||| ((1 : Int32) <<< ((0 : Int32) &&& 31)))) = some v1 := a1
    obtain ⟨⟨b1, b2, b3⟩, b4, b5, ⟨b6, b7⟩, ⟨b8, b8'⟩, ⟨b9, b10⟩, b11⟩ := id a2
    obtain ⟨kd1, vd1, rf1⟩ := kindR h b5 b1
    have e9' : v1.2.1 3 9 = nI a := by rw [a3]; exact e9
    unfold f_X12_line_b62 f_X12_line_b84 f_X12_line_b105 f_X12_partyLine
    rw [if_neg (show ¬ (0 : Int32) = 2 by decide), if_pos rfl, if_pos g6, a1', pu_bnd, if_pos rfl, fr0 v1, pu_bnd, e9', show (8 : Int32) + nI a = nI (8 + a) from nI_add 8 a, pu_bnd, g5, nI_1, kd1, pu_bnd]
    -- a fault at the name
    have bad : ∀ f : Int32, ¬ f = 0 → LPO n cnt b K E j v (f_X7_readLine_b77 N (si (si (si R 2 (nI (j + 1))) 5 f) 6 (K.2.1 1 (j + 1))) K P L 0) (bnd (bnd (some ((0 : Int32), si (si v1 23 f) 24 (v1.1 20))) (fun q3 => gin (nI (8 + a)) 16 (bnd (f_X12_numeral N (sr q3.2 4 (nI (8 + a)).toNatClampNeg q3.1) 1 9) (fun q5 => gin (nI (8 + a)) 16 (itr (fun q : Int32 × VV => f_X12_partyLine_s36 N q.2 (nI (8 + a)) q.1) N (0, sr q5.2 5 (nI (8 + a)).toNatClampNeg q5.1)))))) (fun r => f_X12_line_b355 N r)) := by
      intro f hf
      obtain ⟨q1, q2, q3⟩ := refR h a2 f hf
      obtain ⟨v2, p1, p2, p3⟩ := ptl_f N a 7 (by omega) (sr (si (si v1 23 f) 24 (v1.1 20)) 4 (8 + a) 0) q3
      rw [pu_bnd, pu_gin (show 8 + a < 16 by omega) (show 16 < 2 ^ 31 by omega), nI_clamp (show 8 + a < 2 ^ 31 by omega)]
      have := ptl_eq N hN hlt (sr (si (si v1 23 f) 24 (v1.1 20)) 4 (8 + a) 0)
      rw [nI_clamp (show 8 + a < 2 ^ 31 by omega)] at this
      rw [this, p1, pu_bnd, b77_0]
      have hf2 : ¬ v2.1 23 = 0 := by rw [p2]; exact q3
      rw [b355_f hf2]
      exact ⟨0, _, P, L, v2, rfl, rfl, ((a6.trans (PF_EF q2)).trans (PF_sr 4 _ _ (by omega) (by omega) (by rw [hk4]; omega))).trans p3, Or.inl ⟨rfl, by unfold FT; rw [p2]; exact q1⟩⟩
    unfold f_X12_fresh
    rw [if_pos b6]
    rcases own_view b4.2.2.2 with ⟨k1, k2, k3⟩ | ⟨k1, k2⟩
    · have hj1 : j + 1 < cnt := by
        rcases Nat.lt_or_ge (j + 1) cnt with hh | hh
        · exact hh
        · have e : j + 1 = cnt := by omega
          rw [e, h.2.2.2.2.2] at k1
          exact absurd k1 (by decide)
      rw [if_pos k1, if_pos k2, vd1, pu_bnd]
      obtain ⟨r, m1, m2⟩ := numFound (v := v1) N hN ha8 (PR_P0 hP) (fun p hp => by rw [(PR_tR hP hp).1, a3]; rfl) (K.2.1 2 (j + 1))
      rw [m1, pu_bnd, ← k3, m2, pu_bnd]
      by_cases cr : r = -1
      · rw [if_pos cr, if_pos cr]
        obtain ⟨v2, c1, c2, c3⟩ := AT_next h b4 hj1
        unfold f_X12_fresh_b44
        rw [if_pos b6, c1, pu_bnd, pu_bnd, pu_gin (show 8 + a < 16 by omega) (show 16 < 2 ^ 31 by omega), nI_clamp (show 8 + a < 2 ^ 31 by omega), ← k3]
        dsimp only
        have pe := ptl_eq N hN hlt (sr v2 4 (8 + a) (K.2.1 2 (j + 1)))
        rw [nI_clamp (show 8 + a < 2 ^ 31 by omega)] at pe
        rw [pe]
        have ev2 : v2.2 = v.2 := c2.2.trans a3
        have hg2 : GS n cnt b K E 0 (j + 1 + 1) q q (si (si R 2 (nI (j + 1))) 2 (nI (j + 1 + 1))) L (sr v2 4 (8 + a) (K.2.1 2 (j + 1))) := ⟨⟨hj1, g2, g3⟩, c3, rfl, ⟨(c2.1 23 (by omega) (by omega) (by omega) (by omega)).trans b6, (c2.1 27 (by omega) (by omega) (by omega) (by omega)).trans b7⟩, ⟨g8, by show v2.2.1 3 17 = _; rw [ev2]; exact g8'⟩, ⟨g9, (c2.1 28 (by omega) (by omega) (by omega) (by omega)).trans b10⟩, fun i hi => by show kc _ _ (v2.2.1 14 (64 + i)) (v2.2.1 15 (64 + i)); rw [ev2]; exact g11 i hi⟩
        have pf2 : PF v (sr v2 4 (8 + a) (K.2.1 2 (j + 1))) := (a6.trans (PF_TF c2)).trans (PF_sr 4 _ _ (by omega) (by omega) (by rw [hk4]; omega))
        have e9b : (sr v2 4 (8 + a) (K.2.1 2 (j + 1))).2.1 3 9 = nI a := by show v2.2.1 3 9 = _; rw [ev2]; exact e9
        obtain ⟨z, R', P', v', t1, t2, t3, t4⟩ := traitsR h P (sr v2 4 (8 + a) (K.2.1 2 (j + 1))) (K.2.1 2 (j + 1)) hlt 7 0 N (j + 1 + 1) _ P L _ rfl (by omega) hg2 ⟨rfl, fun _ _ => rfl⟩ (fun _ _ _ _ _ => rfl) (fun _ _ _ => rfl) (PF.refl _) (fun u hu => by omega) (PR_P0 hP) e9b
        have t1' : itr (fun y : Int32 × VV × VV => f_X7_readParty_s85 N y.2.1 K y.2.2 L (K.2.1 2 (j + 1)) (nI a) y.1) N (0, si (si R 2 (nI (j + 1))) 2 (nI (j + 1) + 1), P) = some (z, R', P') := by rw [nI_1]; exact t1
        rw [t1', pu_bnd, t2, pu_bnd]
        rcases t4 with ⟨rfl, t5⟩ | ⟨rfl, j', P2, v3, rfl, rfl, t6, t7, t8, t9, t10, t11, t12⟩
        · have hf : ¬ v'.1 23 = 0 := by rw [t5.1]; exact t5.2.1
          rw [b77_0, b355_f hf]
          exact ⟨0, R', P', L, v', rfl, rfl, pf2.trans t3, Or.inl ⟨rfl, t5⟩⟩
        · obtain ⟨o1, o4, o5, o6, ⟨o8, o8'⟩, o9, o11⟩ := id t7
          have es : ∀ k, k ≠ 16 → k ≠ 19 → k ≠ 20 → k ≠ 21 → k ≠ 22 → v3.1 k = v.1 k := fun k h1 h2 h3 h4 h5 => (t10 k h2 h3 h4 h5).trans ((c2.1 k h2 h3 h4 h5).trans (a4 k h1 h2 h3 h4 h5))
          have e16 : v3.1 16 = v1.1 16 := (t10 16 (by omega) (by omega) (by omega) (by omega)).trans (c2.1 16 (by omega) (by omega) (by omega) (by omega))
          have row0 : ∀ k i, k ≠ 4 → (k < 5 ∨ 9 < k ∨ (k = 6 ∧ i < 24 + 3 * a) ∨ (k ≠ 6 ∧ i ≠ 8 + a)) → v3.2.1 k i = v.2.1 k i := fun k i h4 hki => by
            rw [t11 k i hki, pu_sr2, if_neg h4, ev2]
          have row4 : ∀ i, v3.2.1 4 i = if i = 8 + a then K.2.1 2 (j + 1) else v.2.1 4 i := fun i => by
            rw [t11 4 i (by omega)]
            show upd (v2.2.1 4) (8 + a) _ i = _
            rw [pu_upd, ev2]
          have eP : ∀ i, (si (sr P2 1 a (K.2.1 2 (j + 1))) 0 (nI (a + 1))).2.1 (100 + a) i = P2.2.1 (100 + a) i := fun i => by
            show (sr P2 1 a (K.2.1 2 (j + 1))).2.1 (100 + a) i = _
            rw [pu_sr2, if_neg (by omega)]
          have hLI : LI n cnt b K E (a + 1) c q j' R' (si (sr P2 1 a (K.2.1 2 (j + 1))) 0 (nI (a + 1))) L (sr v3 3 9 (nI (a + 1))) := by
            refine ⟨⟨o1, o4, o5, o6, ⟨o8, ?_⟩, o9, o11⟩, PR_pty hP hlt rfl ?_ (fun k h1 h2 => ?_) (fun p hp => ?_) (fun k hkk => ?_) (fun i hi => ?_) ?_ (fun k p hkk hp => ?_) (fun i hi => ?_) ⟨⟨?_, ?_, fun t ht => ?_, ?_, ?_, ?_⟩, ?_, fun t ht => ?_, ?_, ?_, ?_⟩, TB_w hT (Or.inl rfl) ?_ (fun i hi => ?_), ?_, ?_, ?_, ?_⟩
            · show upd (v3.2.1 3) 9 (nI (a + 1)) 17 = _
              rw [pk_un (by omega)]; exact o8'
            · show P2.1 3 = P.1 3
              rw [t9.1]
            · show (sr P2 1 a (K.2.1 2 (j + 1))).2.1 k = _
              rw [pu_sr2, if_neg h1]; exact t9.2 k h2
            · show upd (P2.2.1 1) a (K.2.1 2 (j + 1)) p = _
              rw [pk_un (by omega), t9.2 1 (by omega)]
            · funext i
              show (sr v3 3 9 (nI (a + 1))).2.1 k (hk k + i) = v.2.1 k (hk k + i)
              rw [pu_sr2, if_neg (by omega)]
              exact row0 k _ (by omega) (by omega)
            · show upd (v3.2.1 3) 9 (nI (a + 1)) (9 + i) = v.2.1 3 (9 + i)
              rw [pk_un (by omega)]
              exact row0 3 _ (by omega) (by omega)
            · show upd (v3.2.1 3) 9 (nI (a + 1)) 9 = _
              rw [pk_us]
            · have ehk : hk k = 8 := by rcases hkk with rfl | rfl | rfl | rfl | rfl <;> rfl
              show (sr v3 3 9 (nI (a + 1))).2.1 k (hk k + p) = v.2.1 k (hk k + p)
              rw [ehk, pu_sr2, if_neg (by omega)]
              by_cases e4 : k = 4
              · rw [e4, row4, if_neg (by omega)]
              · exact row0 k _ e4 (by omega)
            · show v3.2.1 6 (24 + i) = v.2.1 6 (24 + i)
              exact row0 6 _ (by omega) (by omega)
            · show upd (P2.2.1 1) a (K.2.1 2 (j + 1)) a = v3.2.1 4 (8 + a)
              rw [pk_us, row4, if_pos rfl]
            · obtain ⟨x, _, _, x3, x4⟩ := t12 0 (by omega)
              rw [eP]
              show P2.2.1 (100 + a) 0 = v3.2.1 5 (8 + a)
              rw [x3]; exact x4.symm
            · have : t = 0 ∨ t = 1 ∨ t = 2 := by omega
              rcases this with rfl | rfl | rfl
              · obtain ⟨x, _, _, x3, x4⟩ := t12 1 (by omega)
                rw [eP]
                show P2.2.1 (100 + a) 1 = v3.2.1 6 (24 + (3 * a + 0))
                rw [x3]; exact x4.symm
              · obtain ⟨x, _, _, x3, x4⟩ := t12 2 (by omega)
                rw [eP]
                show P2.2.1 (100 + a) 2 = v3.2.1 6 (24 + (3 * a + 1))
                rw [x3]; exact x4.symm
              · obtain ⟨x, _, _, x3, x4⟩ := t12 3 (by omega)
                rw [eP]
                show P2.2.1 (100 + a) 3 = v3.2.1 6 (24 + (3 * a + 2))
                rw [x3]; exact x4.symm
            · obtain ⟨x, _, _, x3, x4⟩ := t12 4 (by omega)
              rw [eP]
              show P2.2.1 (100 + a) 4 = v3.2.1 7 (8 + a)
              rw [x3]; exact x4.symm
            · obtain ⟨x, _, _, x3, x4⟩ := t12 5 (by omega)
              rw [eP]
              show P2.2.1 (100 + a) 5 = v3.2.1 8 (8 + a)
              rw [x3]; exact x4.symm
            · obtain ⟨x, _, _, x3, x4⟩ := t12 6 (by omega)
              rw [eP]
              show P2.2.1 (100 + a) 6 = v3.2.1 9 (8 + a)
              rw [x3]; exact x4.symm
            · obtain ⟨x, x1, x2, x3, x4⟩ := t12 0 (by omega)
              exact ⟨x, x1, x2, x4⟩
            · have : t = 0 ∨ t = 1 ∨ t = 2 := by omega
              rcases this with rfl | rfl | rfl
              · obtain ⟨x, x1, x2, x3, x4⟩ := t12 1 (by omega)
                exact ⟨x, x2, x4⟩
              · obtain ⟨x, x1, x2, x3, x4⟩ := t12 2 (by omega)
                exact ⟨x, x2, x4⟩
              · obtain ⟨x, x1, x2, x3, x4⟩ := t12 3 (by omega)
                exact ⟨x, x2, x4⟩
            · obtain ⟨x, x1, x2, x3, x4⟩ := t12 4 (by omega)
              exact ⟨x, x2, x4⟩
            · obtain ⟨x, x1, x2, x3, x4⟩ := t12 5 (by omega)
              exact ⟨x, x2, x4⟩
            · obtain ⟨x, x1, x2, x3, x4⟩ := t12 6 (by omega)
              exact ⟨x, x2, x4⟩
            · show P2.2.1 7 = P.2.1 7
              exact t9.2 7 (by omega)
            · show bt (v3.1 16) i = _
              rw [e16]; exact a5 i hi
            · rw [t8 4 (by omega) (by omega)]
              show R.1 4 = v3.1 17
              rw [es 17 (by omega) (by omega) (by omega) (by omega) (by omega)]; exact r4
            · rw [t8 5 (by omega) (by omega)]; exact r5
            · rw [t8 6 (by omega) (by omega)]; exact r6
            · exact (es 24 (by omega) (by omega) (by omega) (by omega) (by omega)).trans r7
          exact LPO_pre (pf2.trans t3) (by omega) (endR h hLI)
      · rw [if_neg cr, if_neg cr, rf1 3, pu_bnd, wrongR b6, pu_bnd]
        unfold f_X12_fresh_b44
        have q3 := (refR h a2 3 (by decide)).2.2
        rw [if_neg q3]
        exact bad 3 (by decide)
    · rw [if_neg k1, if_neg k2, rf1 1, pu_bnd, wrongR b6, pu_bnd]
      unfold f_X12_fresh_b44
      have q3 := (refR h a2 1 (by decide)).2.2
      rw [if_neg q3]
      exact bad 1 (by decide)
  · have : a = 8 := by omega
    subst this
    obtain ⟨q1, q2, q3⟩ := refR h hg 2 (by decide)
    rw [if_neg (show ¬ nI 8 < 8 by decide), if_pos (show nI 8 = 8 from rfl), rf 2, pu_bnd]
    unfold f_X12_line_b76
    rw [wrongR g6, pu_bnd, b105_f q3]
    exact ⟨0, _, P, L, _, b77_0 (N := N) _ _ _, rfl, PF_EF q2, Or.inl ⟨rfl, q1⟩⟩
theorem line_w : ∀ j, j < 22 → (j = 0 ∧ nI (32 + pm j) = 38) ∨ (j = 2 ∧ nI (32 + pm j) = 39) ∨ (j = 8 ∧ nI (32 + pm j) = 40) ∨ (∃ s, s < 6 ∧ swd s = j ∧ nI (32 + pm j) = nI (32 + s)) ∨ (¬ nI (32 + pm j) = 38 ∧ ¬ nI (32 + pm j) = 39 ∧ ¬ nI (32 + pm j) = 40 ∧ (38 : Int32) ≤ nI (32 + pm j) ∧ ¬ nI j ≤ 8) := by decide +kernel
theorem line_view {k vl s w : Int32} (h : tokR k vl s w) : (k = 38 ∧ s = 0 ∧ w = 0) ∨ (k = 39 ∧ s = 0 ∧ w = 2) ∨ (k = 40 ∧ s = 0 ∧ w = 8) ∨ (∃ i, i < 6 ∧ k = nI (32 + i) ∧ s = 0 ∧ w = nI (swd i)) ∨ (¬ k = 38 ∧ ¬ k = 39 ∧ ¬ k = 40 ∧ (k < 32 ∨ 38 ≤ k) ∧ ¬ (s = 0 ∧ w ≤ 8)) := by
  rcases h with ⟨rfl, rfl⟩ | ⟨rfl, rfl⟩ | ⟨rfl, rfl, h⟩ | ⟨rfl, rfl, h⟩ | ⟨rfl, h, h44, h45⟩ | ⟨rfl, j, hj, rfl, rfl⟩
  · exact Or.inr (Or.inr (Or.inr (Or.inr ⟨by decide, by decide, by decide, by decide, fun h => absurd h.1 (by decide)⟩)))
  · exact Or.inr (Or.inr (Or.inr (Or.inr ⟨by decide, by decide, by decide, by decide, fun h => absurd h.1 (by decide)⟩)))
  · exact Or.inr (Or.inr (Or.inr (Or.inr ⟨by decide, by decide, by decide, by decide, fun h => absurd h.1 (by decide)⟩)))
  · exact Or.inr (Or.inr (Or.inr (Or.inr ⟨by decide, by decide, by decide, by decide, fun h => absurd h.1 (by decide)⟩)))
  · refine Or.inr (Or.inr (Or.inr (Or.inr ?_)))
    have hs : ¬ ((3 : Int32) = 0 ∧ w ≤ 8) := fun h => absurd h.1 (by decide)
    rcases h with ⟨rfl, rfl⟩ | ⟨rfl, rfl⟩ | ⟨rfl, rfl⟩ | h
    · exact ⟨by decide, by decide, by decide, by decide, hs⟩
    · exact ⟨by decide, by decide, by decide, by decide, hs⟩
    · exact ⟨by decide, by decide, by decide, by decide, hs⟩
    · rcases h with ⟨rfl, rfl⟩ | ⟨rfl, rfl⟩ | ⟨rfl, rfl⟩ | ⟨rfl, rfl⟩ | ⟨rfl, rfl⟩ | ⟨rfl, rfl⟩ | ⟨rfl, rfl⟩ | ⟨rfl, rfl⟩ | ⟨rfl, rfl⟩ | ⟨rfl, rfl⟩ | ⟨rfl, rfl⟩ | ⟨rfl, rfl⟩ <;> exact ⟨by decide, by decide, by decide, by decide, hs⟩
  · rcases line_w j hj with ⟨rfl, a1⟩ | ⟨rfl, a1⟩ | ⟨rfl, a1⟩ | ⟨s, hs, rfl, a1⟩ | ⟨a1, a2, a3, a4, a5⟩
    · exact Or.inl ⟨a1, rfl, rfl⟩
    · exact Or.inr (Or.inl ⟨a1, rfl, rfl⟩)
    · exact Or.inr (Or.inr (Or.inl ⟨a1, rfl, rfl⟩))
    · exact Or.inr (Or.inr (Or.inr (Or.inl ⟨s, hs, a1, rfl, rfl⟩)))
    · exact Or.inr (Or.inr (Or.inr (Or.inr ⟨a1, a2, a3, Or.inr a4, fun h => a5 h.2⟩)))
theorem sl_ne : ∀ s, s < 6 → ¬ nI (32 + s) = 38 ∧ ¬ nI (32 + s) = 39 ∧ ¬ nI (32 + s) = 40 ∧ ¬ nI (32 + s) < 32 ∧ ¬ (38 : Int32) ≤ nI (32 + s) ∧ nI (32 + s) - 32 = nI s ∧ nI (swd s) ≤ 8 ∧ ¬ nI (swd s) = 0 ∧ ¬ nI (swd s) = 2 ∧ ¬ nI (swd s) = 8 := by decide +kernel
theorem lineR (h : TKS N n cnt b K E) (hN : 2000 < N) {a c q j : Nat} {R P L v : VV} (hl : LI n cnt b K E a c q j R P L v) (hj : j < cnt) : LPO n cnt b K E j v (f_X7_readLine N R K P L) (f_X12_line N v) := by
  obtain ⟨hg, hP, hT, r4, r5, r6, r7⟩ := id hl
  obtain ⟨⟨g1, g2, g3⟩, g4, g5, ⟨g6, g7⟩, ⟨g8, g8'⟩, ⟨g9, g10⟩, g11⟩ := id hg
  obtain ⟨kd, vd, rf⟩ := kindR h g5 g1
  unfold f_X7_readLine f_X12_line f_X12_line_b46
  rw [kd, pu_bnd]
  rcases line_view g4.2.2.2 with ⟨k1, k2, k3⟩ | ⟨k1, k2, k3⟩ | ⟨k1, k2, k3⟩ | ⟨s, hs, k1, k2, k3⟩ | ⟨k1, k2, k3, k4, k5⟩
  · rw [if_pos k1, if_pos k2, k3, if_pos (show (0 : Int32) ≤ 8 by decide), if_pos rfl]
    exact ptyLn h hN hl hj
  · rw [k1, if_neg (show ¬ (39 : Int32) = 38 by decide), if_pos rfl, if_pos k2, k3, if_pos (show (2 : Int32) ≤ 8 by decide), if_neg (show ¬ (2 : Int32) = 0 by decide), if_pos rfl]
    unfold f_X12_line_b47
    rw [if_neg (show ¬ (2 : Int32) = 0 by decide)]
    exact sitLn h hl hj
  · rw [k1, if_neg (show ¬ (40 : Int32) = 38 by decide), if_neg (show ¬ (40 : Int32) = 39 by decide), if_pos rfl, if_pos k2, k3, if_pos (show (8 : Int32) ≤ 8 by decide), if_neg (show ¬ (8 : Int32) = 0 by decide), if_neg (show ¬ (8 : Int32) = 2 by decide), if_pos rfl]
    unfold f_X12_line_b47 f_X12_line_b62 f_X12_line_b84
    rw [if_neg (show ¬ (8 : Int32) = 0 by decide), if_neg (show ¬ (8 : Int32) = 2 by decide), if_pos rfl]
    exact lawLn h hN hl hj
  · obtain ⟨z1, z2, z3, z4, z5, z6, z7, z8, z9, z10⟩ := sl_ne s hs
    rw [k1, if_neg z1, if_neg z2, if_neg z3, if_neg z4, if_neg z5, z6, if_pos k2, k3, if_pos z7, if_neg z8, if_neg z9, if_neg z10]
    unfold f_X12_line_b47 f_X12_line_b62
    rw [if_neg z8, if_neg z9]
    exact setLn h hl hs hj
  · obtain ⟨q1, q2, q3⟩ := refR h hg 1 (by decide)
    have cl : (if K.2.1 0 j < 32 then f_X7_readLine_b71 N R K P L else if (38 : Int32) ≤ K.2.1 0 j then f_X7_readLine_b71 N R K P L else bnd (f_X7_readSetting R K P L (K.2.1 0 j - 32)) (fun q3 => f_X7_readLine_b77 N q3.2.1 K q3.2.2 L q3.1)) = f_X7_readLine_b71 N R K P L := by
      rcases k4 with k4 | k4
      · rw [if_pos k4]
      · rw [if_pos k4, ite_self]
    have rl : (if v.1 21 = 0 then if v.1 22 ≤ 8 then if v.1 22 = 0 then f_X12_line_b47 N v (v.1 22) 0 else if v.1 22 = 2 then f_X12_line_b47 N v (v.1 22) 0 else if v.1 22 = 8 then f_X12_line_b47 N v (v.1 22) 0 else f_X12_line_b47 N v (v.1 22) 1 else f_X12_line_b16 N v else f_X12_line_b16 N v) = f_X12_line_b16 N v := by
      by_cases e1 : v.1 21 = 0
      · rw [if_pos e1, if_neg (fun e2 => k5 ⟨e1, e2⟩)]
      · rw [if_neg e1]
    rw [if_neg k1, if_neg k2, if_neg k3, cl, rl]
    unfold f_X7_readLine_b71 f_X12_line_b16
    rw [rf 1, pu_bnd, wrongR g6, pu_bnd]
    exact ⟨0, _, P, L, _, b77_0 (N := N) _ _ _, rfl, PF_EF q2, Or.inl ⟨rfl, q1⟩⟩
