/-! text: parts of an E; the whole of it -/
variable {N n cnt : Nat} {b : Nat → Nat} {K : VV} {E : Nat → Nat}
theorem part_w : ∀ j, j < 22 → (∃ i, i < 7 ∧ nI (32 + pm j) = nI (47 + i) ∧ nI j = nI (15 + i)) ∨ (¬ nI (32 + pm j) = 5 ∧ ¬ nI (32 + pm j) = 2 ∧ nI (32 + pm j) < 47 ∧ ¬ (15 : Int32) ≤ nI j) := by decide +kernel
theorem part_view {k vl s w : Int32} (h : tokR k vl s w) : (k = 5 ∧ s = 3 ∧ w = 40) ∨ (k = 2 ∧ s = 2 ∧ ∃ x y : Nat, vl = nI x ∧ w = nI y ∧ numR x y) ∨ (∃ i, i < 7 ∧ k = nI (47 + i) ∧ s = 0 ∧ w = nI (15 + i)) ∨ (¬ k = 5 ∧ ¬ k = 2 ∧ k < 47 ∧ ¬ (s = 3 ∧ w = 40) ∧ ¬ s = 2 ∧ ¬ (s = 0 ∧ 15 ≤ w)) := by
  rcases h with ⟨rfl, rfl⟩ | ⟨rfl, rfl⟩ | ⟨rfl, rfl, h⟩ | ⟨rfl, rfl, _⟩ | ⟨rfl, h, h44, h45⟩ | ⟨rfl, j, hj, rfl, rfl⟩
  · exact Or.inr (Or.inr (Or.inr ⟨by decide, by decide, by decide, fun h => absurd h.1 (by decide), by decide, fun h => absurd h.1 (by decide)⟩))
  · exact Or.inr (Or.inr (Or.inr ⟨by decide, by decide, by decide, fun h => absurd h.1 (by decide), by decide, fun h => absurd h.1 (by decide)⟩))
  · exact Or.inr (Or.inl ⟨rfl, rfl, h⟩)
  · exact Or.inr (Or.inr (Or.inr ⟨by decide, by decide, by decide, fun h => absurd h.1 (by decide), by decide, fun h => absurd h.1 (by decide)⟩))
  · rcases h with ⟨rfl, rfl⟩ | ⟨rfl, rfl⟩ | ⟨rfl, rfl⟩ | h
    · exact Or.inr (Or.inr (Or.inr ⟨by decide, by decide, by decide, by decide, by decide, by decide⟩))
    · exact Or.inl ⟨rfl, rfl, rfl⟩
    · exact Or.inr (Or.inr (Or.inr ⟨by decide, by decide, by decide, by decide, by decide, by decide⟩))
    · refine Or.inr (Or.inr (Or.inr ?_))
      rcases h with ⟨rfl, rfl⟩ | ⟨rfl, rfl⟩ | ⟨rfl, rfl⟩ | ⟨rfl, rfl⟩ | ⟨rfl, rfl⟩ | ⟨rfl, rfl⟩ | ⟨rfl, rfl⟩ | ⟨rfl, rfl⟩ | ⟨rfl, rfl⟩ | ⟨rfl, rfl⟩ | ⟨rfl, rfl⟩ | ⟨rfl, rfl⟩ <;> exact ⟨by decide, by decide, by decide, by decide, by decide, by decide⟩
  · rcases part_w j hj with ⟨i, hi, a1, a2⟩ | ⟨a1, a2, a3, a4⟩
    · exact Or.inr (Or.inr (Or.inl ⟨i, hi, a1, rfl, a2⟩))
    · exact Or.inr (Or.inr (Or.inr ⟨a1, a2, a3, fun h => absurd h.1 (by decide), by decide, fun h => a4 h.2⟩))
/-- ')' -/
theorem clo_view {k vl s w : Int32} (h : tokR k vl s w) : (k = 6 ∧ s = 3 ∧ w = 41) ∨ (¬ k = 6 ∧ ¬ (s = 3 ∧ w = 41)) := by
  rcases h with ⟨rfl, rfl⟩ | ⟨rfl, rfl⟩ | ⟨rfl, rfl, h⟩ | ⟨rfl, rfl, _⟩ | ⟨rfl, h, h44, h45⟩ | ⟨rfl, j, hj, rfl, rfl⟩
  · exact Or.inr ⟨by decide, fun h => absurd h.1 (by decide)⟩
  · exact Or.inr ⟨by decide, fun h => absurd h.1 (by decide)⟩
  · exact Or.inr ⟨by decide, fun h => absurd h.1 (by decide)⟩
  · exact Or.inr ⟨by decide, fun h => absurd h.1 (by decide)⟩
  · rcases h with ⟨rfl, rfl⟩ | ⟨rfl, rfl⟩ | ⟨rfl, rfl⟩ | h
    · exact Or.inr ⟨by decide, by decide⟩
    · exact Or.inr ⟨by decide, by decide⟩
    · exact Or.inl ⟨rfl, rfl, rfl⟩
    · refine Or.inr ?_
      rcases h with ⟨rfl, rfl⟩ | ⟨rfl, rfl⟩ | ⟨rfl, rfl⟩ | ⟨rfl, rfl⟩ | ⟨rfl, rfl⟩ | ⟨rfl, rfl⟩ | ⟨rfl, rfl⟩ | ⟨rfl, rfl⟩ | ⟨rfl, rfl⟩ | ⟨rfl, rfl⟩ | ⟨rfl, rfl⟩ | ⟨rfl, rfl⟩ <;> exact ⟨by decide, by decide⟩
  · exact Or.inr ⟨(by decide +kernel : ∀ j, j < 22 → ¬ nI (32 + pm j) = 6) j hj, fun h => absurd h.1 (by decide)⟩
/-- a number or a name -/
theorem leafR (h : TKS N n cnt b K E) {op j l q : Nat} {R L v : VV} (P : VV) (hg : GS n cnt b K E op j l q R L v) (hj : j < cnt) {k vl s w : Int32} (hk : kc k vl s w) (h0 : kn k = 0) : PO n cnt b K E op j l q 0 R L v (bnd (f_X7_takeKnot R K P L) (fun t => if t.1 = 0 then some (0, t.2.1, t.2.2) else bnd (f_X3_put t.2.2 k vl) (fun y => some (1, t.2.1, y)))) (bnd (f_X12_knot v) (fun a => bnd (f_X12_puts a s w) (fun c => f_X12_goOn N c))) := by
  obtain ⟨⟨g1, g2, g3⟩, g4, g5, ⟨g6, g7⟩, ⟨g8, g8'⟩, ⟨g9, g10⟩, g11⟩ := id hg
  rcases knotR h P hg with ⟨k1, k2, k3⟩ | ⟨k1, R', v', k2, k3, k4, k5, k6⟩
  · have hg1 : GS n cnt b K E op j l (q + 1) R (si L 3 (nI (q + 1))) (si v 28 (nI (q + 1))) := ⟨⟨g1, by omega, by omega⟩, g4, g5, ⟨g6, g7⟩, ⟨g8, g8'⟩, ⟨rfl, rfl⟩, g11⟩
    obtain ⟨L2, v2, s1, s2, s3, s4, s5, s6, s7⟩ := putsR hg1 (by omega) hk
    obtain ⟨⟨m1, m2, m3⟩, m4, m5, ⟨m6, m7⟩, ⟨m8, m8'⟩, ⟨m9, m10⟩, m11⟩ := id s3
    obtain ⟨v3, a1, a2, a3⟩ := AT_next h m4 hj
    have hgo : f_X12_goOn N v2 = some v3 := by unfold f_X12_goOn; rw [if_pos m6, a1, pu_bnd]
    refine ⟨1, si R 2 (nI (j + 1)), L2, v3, ?_, ?_, ((EF_si 28 _ (by omega)).trans s4).trans (EF_TF a2), Or.inr ⟨rfl, j + 1, l + 1, q + 1, ⟨⟨hj, by omega, by omega⟩, a3, rfl, ⟨(a2.1 23 (by omega) (by omega) (by omega) (by omega)).trans m6, (a2.1 27 (by omega) (by omega) (by omega) (by omega)).trans m7⟩, ⟨m8, by rw [a2.2]; exact m8'⟩, ⟨m9, (a2.1 28 (by omega) (by omega) (by omega) (by omega)).trans m10⟩, fun i hi => by rw [a2.2]; exact m11 i hi⟩, by omega, by omega, by omega, ?_, fun d => ?_⟩⟩
    · rw [k2, pu_bnd, if_neg (by show ¬ (1 : Int32) = 0; decide)]
      dsimp only
      rw [s1, pu_bnd]
    · rw [k3, pu_bnd, s2, pu_bnd, hgo]
    · obtain ⟨b1, b2, b3, b4, b5, b6⟩ := s5
      exact ⟨fun k x y => by rw [pu_si1, if_neg x], fun k x y => (b2 k x y).trans (by rw [pu_si1, if_neg y]), b3, b4, (a2.1 24 (by omega) (by omega) (by omega) (by omega)).trans b5, fun i hi => by rw [a2.2]; exact b6 i hi⟩
    · rw [show l + 1 - l = 1 by omega]
      show (if kn (L2.2.1 0 l) ≤ d then some (d - kn (L2.2.1 0 l) + 1) else none) = some (d + 1)
      rw [s6, h0, if_pos (by omega)]; rfl
  · refine ⟨0, R', L, v', ?_, ?_, k5, Or.inl ⟨rfl, k4⟩⟩
    · rw [k2, pu_bnd, if_pos rfl]
    · rw [k3, pu_bnd, puts_f k6, pu_bnd, goOn_f k6]
theorem b162_f {ex : VV → Option VV} {v : VV} (hv : ¬ v.1 23 = 0) (x : Int32) : f_X12_primary_b162 N ex v x = some v := by
  unfold f_X12_primary_b162 f_X12_primary_b176 f_X12_primary_b194
  simp only [knot_f hv, pu_bnd, puts_f hv, goOn_f hv, ite_self]
theorem knL : ∀ i, i < 7 → kn (nI (47 + i)) = 0 ∧ ¬ nI (47 + i) = 5 ∧ ¬ nI (47 + i) = 2 ∧ ¬ nI (47 + i) < 47 ∧ nI (47 + i) < 54 ∧ (15 : Int32) ≤ nI (15 + i) ∧ nI (15 + i) - 15 = nI i := by decide +kernel
theorem partR (h : TKS N n cnt b K E) {op : Nat} (hop : op ≤ 8) {rc : VV → VV → VV → VV → Int32 → Int32 → Option (Int32 × VV × VV)} {ex : VV → Option VV} (P : VV) (hM : op < 8 → MT n cnt b K E (op + 1) (fun R L => rc R K P L 1 (nI (op + 1))) ex) : MT n cnt b K E op (fun R L => f_X7_readPart N rc R K P L (nI op)) (f_X12_primary N ex) := by
  refine ⟨fun j l q R L v hg => ?_, fun v hv => by unfold f_X12_primary; rw [if_neg hv]⟩
  obtain ⟨⟨g1, g2, g3⟩, g4, g5, ⟨g6, g7⟩, ⟨g8, g8'⟩, ⟨g9, g10⟩, g11⟩ := id hg
  obtain ⟨kd, vd, rf⟩ := kindR h g5 g1
  show PO n cnt b K E op j l q 0 R L v (f_X7_readPart N rc R K P L (nI op)) (f_X12_primary N ex v)
  have hj : ¬ K.2.1 0 j = 0 → j < cnt := fun hk => by
    rcases Nat.lt_or_ge j cnt with hh | hh
    · exact hh
    · exact absurd (show K.2.1 0 j = 0 by rw [show j = cnt by omega]; exact h.2.2.2.2.2) hk
  unfold f_X7_readPart f_X12_primary
  rw [kd, pu_bnd, if_pos g6, isSg g6, pu_bnd]
  rcases part_view g4.2.2.2 with ⟨k1, k2, k3⟩ | ⟨k1, k2, x, y, k3, k4, k5⟩ | ⟨i, hi, k1, k2, k3⟩ | ⟨k1, k2, k3, k4, k5, k6⟩
  · -- brackets
    have hjc := hj (by rw [k1]; decide)
    rw [k1, if_pos rfl, show (if v.1 21 = 3 ∧ v.1 22 = 40 then (1 : Int32) else 0) = 1 from if_pos ⟨k2, k3⟩, if_neg (show ¬ (1 : Int32) = 0 by decide), g7]
    rcases Nat.lt_or_ge op 8 with hlt | hge
    · rw [if_pos (show nI (op) < (8 : Int32) from nI_lt (a := op) (b := 8) (by omega) (by omega)), if_neg (show ¬ nI (op) = (8 : Int32) from fun hq9 => absurd ((nI_eq (a := op) (b := 8) (by omega) (by omega)).mp hq9) (by omega)), g5, nI_1, nI_1]
      have ha : AT n b K E j (si v 27 (nI (op + 1))) := g4
      obtain ⟨v1, a1, a2, a3⟩ := AT_next h ha hjc
      have hg1 : GS n cnt b K E (op + 1) (j + 1) l q (si R 2 (nI (j + 1))) L v1 := ⟨⟨hjc, g2, g3⟩, a3, rfl, ⟨(a2.1 23 (by omega) (by omega) (by omega) (by omega)).trans g6, a2.1 27 (by omega) (by omega) (by omega) (by omega)⟩, ⟨g8, by rw [a2.2]; exact g8'⟩, ⟨g9, (a2.1 28 (by omega) (by omega) (by omega) (by omega)).trans g10⟩, fun i hi => by rw [a2.2]; exact g11 i hi⟩
      have ef1 : EF v v1 := (EF_si 27 _ (by omega)).trans (EF_TF a2)
      have sm1 : SM l R L v (si R 2 (nI (j + 1))) L v1 := ⟨fun k x y => by rw [pu_si1, if_neg x], fun _ _ _ => rfl, fun _ _ _ => rfl, fun _ _ => ⟨rfl, rfl⟩, a2.1 24 (by omega) (by omega) (by omega) (by omega), fun i _ => by rw [a2.2]; exact ⟨rfl, rfl⟩⟩
      obtain ⟨z, R2, L2, v2, p1, p2, p3, p4⟩ := (hM hlt).1 _ _ _ _ _ _ hg1
      have p1' : rc (si R 2 (nI (j + 1))) K P L 1 (nI (op + 1)) = some (z, R2, L2) := p1
      unfold f_X12_primary_b31
      rw [if_pos g6, g7, nI_1, a1, pu_bnd, p2, pu_bnd, p1', pu_bnd]
      rcases p4 with ⟨rfl, p5⟩ | ⟨rfl, j2, l2, q2, p5, p6, p7, p8, p9, p10⟩
      · have hf : ¬ v2.1 23 = 0 := by rw [p5.1]; exact p5.2.1
        refine ⟨0, R2, L2, v2, by rw [if_pos rfl], ?_, ef1.trans p3, Or.inl ⟨rfl, p5⟩⟩
        unfold f_X12_primary_b78
        rw [if_neg hf, if_neg hf]
      · obtain ⟨⟨m1, m2, m3⟩, m4, m5, ⟨m6, m7⟩, ⟨m8, m8'⟩, ⟨m9, m10⟩, m11⟩ := id p5
        obtain ⟨kd2, _, rf2⟩ := kindR h m5 m1
        rw [if_neg (by show ¬ (1 : Int32) = 0; decide), if_pos m6, isSg m6, pu_bnd]
        unfold f_X7_expect
        rcases clo_view m4.2.2.2 with ⟨c1, c2, c3⟩ | ⟨c1, c2⟩
        · have hj2 : j2 < cnt := by
            rcases Nat.lt_or_ge j2 cnt with hh | hh
            · exact hh
            · have e : j2 = cnt := by omega
              rw [e, h.2.2.2.2.2] at c1
              exact absurd c1 (by decide)
          have ha2 : AT n b K E j2 (si v2 27 (nI op)) := m4
          obtain ⟨v3, b1, b2, b3⟩ := AT_next h ha2 hj2
          refine ⟨1, si R2 2 (nI (j2 + 1)), L2, v3, ?_, ?_, (ef1.trans p3).trans ((EF_si 27 _ (by omega)).trans (EF_TF b2)), Or.inr ⟨rfl, j2 + 1, l2, q2, ⟨⟨hj2, m2, m3⟩, b3, rfl, ⟨(b2.1 23 (by omega) (by omega) (by omega) (by omega)).trans m6, b2.1 27 (by omega) (by omega) (by omega) (by omega)⟩, ⟨m8, by rw [b2.2]; exact m8'⟩, ⟨m9, (b2.1 28 (by omega) (by omega) (by omega) (by omega)).trans m10⟩, fun i hi => by rw [b2.2]; exact m11 i hi⟩, by omega, p7, p8, (sm1.trans p9 (Nat.le_refl l)).trans ⟨fun k x y => by rw [pu_si1, if_neg x], fun _ _ _ => rfl, fun _ _ _ => rfl, fun _ _ => ⟨rfl, rfl⟩, b2.1 24 (by omega) (by omega) (by omega) (by omega), fun i _ => by rw [b2.2]; exact ⟨rfl, rfl⟩⟩ (Nat.le_refl l), p10⟩⟩
          · dsimp only
            rw [kd2, pu_bnd, if_pos c1, pu_bnd, if_neg (by show ¬ (1 : Int32) = 0; decide), m5, nI_1]
          · rw [show (if v2.1 21 = 3 ∧ v2.1 22 = 41 then (1 : Int32) else 0) = 1 from if_pos ⟨c2, c3⟩, if_neg (by decide)]
            unfold f_X12_primary_b78
            rw [if_pos m6, m7, nI_pred, b1, pu_bnd]
        · obtain ⟨r1, r2, r3⟩ := refR h p5 1 (by decide)
          refine ⟨0, _, L2, _, ?_, ?_, (ef1.trans p3).trans r2, Or.inl ⟨rfl, r1⟩⟩
          · dsimp only
            rw [kd2, pu_bnd, if_neg c1, rf2 1, pu_bnd]; rfl
          · rw [show (if v2.1 21 = 3 ∧ v2.1 22 = 41 then (1 : Int32) else 0) = 0 from if_neg c2, if_pos rfl, wrongR m6, pu_bnd]
            unfold f_X12_primary_b78
            rw [if_neg r3]
    · have : op = 8 := by omega
      subst this
      obtain ⟨r1, r2, r3⟩ := refR h hg 2 (by decide)
      refine ⟨0, _, L, _, ?_, ?_, r2, Or.inl ⟨rfl, r1⟩⟩
      · rw [if_neg (show ¬ nI 8 < 8 by decide), rf 2, pu_bnd]; rfl
      · rw [if_pos (show nI 8 = 8 from rfl), wrongR g6, pu_bnd]
        unfold f_X12_primary_b31
        rw [if_neg r3]
  · -- a number
    have hjc := hj (by rw [k1]; decide)
    obtain ⟨n1, n2, n3⟩ := k5
    rw [k1, if_neg (show ¬ (2 : Int32) = 5 by decide), if_pos rfl, show (if v.1 21 = 3 ∧ v.1 22 = 40 then (1 : Int32) else 0) = 0 from if_neg (fun h => absurd (k2.symm.trans h.1) (by decide)), if_pos rfl, if_pos k2]
    unfold f_X7_readPart_b81 f_X12_primary_b114 f_X12_primary_b137
    rw [vd, pu_bnd, if_pos rfl, k3, k4, if_neg (show ¬ (1 : Int32) = 0 by decide), if_neg (show ¬ (1 : Int32) = 0 by decide)]
    by_cases c : x ≤ 9999
    · have hxy : x = y := by omega
      subst hxy
      rw [if_pos (show nI (x) ≤ (9999 : Int32) from nI_le (a := x) (b := 9999) (by omega) (by omega)), if_pos (show nI (x) ≤ (9999 : Int32) from nI_le (a := x) (b := 9999) (by omega) (by omega))]
      have := leafR h P hg hjc (k := 2) (vl := nI x) (s := 0) (w := nI x) (Or.inl ⟨rfl, rfl, rfl⟩) rfl
      obtain ⟨z, R', L', v', q1, q2, q3⟩ := this
      refine ⟨z, R', L', v', q1, ?_, q3⟩
      unfold f_X12_primary_b162 f_X12_primary_b176 f_X12_primary_b194
      rw [← q2]
      cases hkn : f_X12_knot v with
      | none => rfl
      | some a =>
        have ea : a.1 22 = nI x := by
          unfold f_X12_knot at hkn
          rw [if_pos g6, wrongR g6, pu_bnd] at hkn
          by_cases c64 : v.1 28 = 64
          · rw [if_pos c64] at hkn; injection hkn with hkn; rw [← hkn]; exact k4
          · rw [if_neg c64] at hkn; injection hkn with hkn; rw [← hkn]; exact k4
        rw [pu_bnd, pu_bnd, if_neg (show ¬ (1 : Int32) = 0 by decide), if_neg (show ¬ (1 : Int32) = 0 by decide), ea]
        congr 1
        funext c
        cases f_X12_goOn N c with
        | none => rfl
        | some e => rfl
    · obtain ⟨r1, r2, r3⟩ := refR h hg 2 (by decide)
      rw [if_neg (show ¬ nI (x) ≤ (9999 : Int32) from nI_ge (a := 9999) (b := x) (by omega) (by omega)), if_neg (show ¬ nI (y) ≤ (9999 : Int32) from nI_ge (a := 9999) (b := y) (by omega) (by omega)), rf 2, pu_bnd, wrongR g6, pu_bnd, b162_f r3]
      exact ⟨0, _, L, _, rfl, rfl, r2, Or.inl ⟨rfl, r1⟩⟩
  · -- a name
    have hjc := hj (by rw [k1]; exact nI_ne0 (by omega) (by omega))
    obtain ⟨m1, m2, m3, m4, m5, m6, m7⟩ := knL i hi
    rw [k1, if_neg m2, if_neg m3, if_neg m4, if_pos m5, show (if v.1 21 = 3 ∧ v.1 22 = 40 then (1 : Int32) else 0) = 0 from if_neg (fun h => absurd (k2.symm.trans h.1) (by decide)), if_pos rfl, if_neg (show ¬ v.1 21 = 2 by rw [k2]; decide)]
    unfold f_X7_readPart_b81 f_X12_primary_b114 f_X12_primary_b137
    rw [vd, pu_bnd, if_neg m3, if_pos rfl, if_pos rfl, if_pos k2, k3, if_pos m6]
    have := leafR h P hg hjc (k := nI (47 + i)) (vl := K.2.1 2 j) (s := 1) (w := nI i) (Or.inr (Or.inl ⟨i, hi, rfl, rfl, rfl⟩)) m1
    obtain ⟨z, R', L', v', q1, q2, q3⟩ := this
    refine ⟨z, R', L', v', q1, ?_, q3⟩
    unfold f_X12_primary_b162 f_X12_primary_b176 f_X12_primary_b194
    rw [← q2]
    cases hkn : f_X12_knot v with
    | none => rfl
    | some a =>
      have ea : a.1 22 = nI (15 + i) := by
        unfold f_X12_knot at hkn
        rw [if_pos g6, wrongR g6, pu_bnd] at hkn
        by_cases c64 : v.1 28 = 64
        · rw [if_pos c64] at hkn; injection hkn with hkn; rw [← hkn]; exact k3
        · rw [if_neg c64] at hkn; injection hkn with hkn; rw [← hkn]; exact k3
      rw [pu_bnd, pu_bnd, if_pos rfl, if_pos rfl, ea, m7]
      congr 1
      funext c
      cases f_X12_goOn N c with
      | none => rfl
      | some e => rfl
  · -- none
    obtain ⟨r1, r2, r3⟩ := refR h hg 1 (by decide)
    rw [if_neg k1, if_neg k2, if_pos k3, show (if v.1 21 = 3 ∧ v.1 22 = 40 then (1 : Int32) else 0) = 0 from if_neg k4, if_pos rfl, if_neg k5]
    unfold f_X7_readPart_b75 f_X12_primary_b114 f_X12_primary_b137 f_X12_primary_b157
    rw [rf 1, pu_bnd, if_pos rfl, if_pos rfl, wrongR g6, pu_bnd, b162_f r3]
    refine ⟨0, _, L, _, rfl, ?_, r2, Or.inl ⟨rfl, r1⟩⟩
    by_cases c0 : v.1 21 = 0
    · rw [if_pos c0, if_neg (fun h => k6 ⟨c0, h⟩)]
    · rw [if_neg c0]
theorem MT_e {op : Nat} {G G' : VV → VV → Option (Int32 × VV × VV)} {F F' : VV → Option VV} (h : MT n cnt b K E op G F) (hG : ∀ R L, G' R L = G R L) (hF : ∀ v, F' v = F v) : MT n cnt b K E op G' F' := ⟨fun j l q R L v hg => by rw [hG, hF]; exact h.1 j l q R L v hg, fun v hv => by rw [hF]; exact h.2 v hv⟩
theorem exprR (h : TKS N n cnt b K E) (hN : 2000 < N) (P : VV) : ∀ g op d cf, op + g = 9 → 1 ≤ g → g ≤ d → 6 * g ≤ cf → MT n cnt b K E op (fun R L => f_X7_readRank N cf R K P L 1 (nI op)) (f_X12_expression N d) := by
  intro g
  induction g with
  | zero => intro op d cf _ h1; omega
  | succ g ih =>
    intro op d cf hop _ hd hcf
    obtain ⟨d, rfl⟩ : ∃ d', d = d' + 1 := ⟨d - 1, by omega⟩
    obtain ⟨c, rfl⟩ : ∃ c, cf = c + 6 := ⟨cf - 6, by omega⟩
    have m6 : MT n cnt b K E op (fun R L => f_X7_readRank N (c + 1) R K P L (nI 6) (nI op)) (f_X12_primary N (f_X12_expression N d)) := by
      have pm := partR h (op := op) (by omega) (rc := f_X7_readRank N c) (ex := f_X12_expression N d) P (fun hlt => ih (op + 1) d c (by omega) (by omega) (by omega) (by omega))
      refine ⟨fun j l q R L v hg => ?_, pm.2⟩
      obtain ⟨z, R', L', v', q1, q2, q3, q4⟩ := pm.1 j l q R L v hg
      refine ⟨z, R', L', v', ?_, q2, q3, q4⟩
      show f_X7_readRank_body N (f_X7_readRank N c) R K P L (nI 6) (nI op) = _
      unfold f_X7_readRank_body
      have q1' : f_X7_readPart N (f_X7_readRank N c) R K P L (nI op) = some (z, R', L') := q1
      rw [if_neg (show ¬ nI 6 < 6 by decide), q1', pu_bnd]
      have hz : z = 0 ∨ z = 1 := by
        rcases q4 with ⟨e, _⟩ | ⟨e, _⟩
        · exact Or.inl e
        · exact Or.inr e
      show gbz z (some (z, R', L')) = _
      unfold gbz
      rw [if_pos hz]
    have m5 : MT n cnt b K E op (fun R L => f_X7_readRank N (c + 2) R K P L (nI 5) (nI op)) (f_X12_product N (f_X12_expression N d)) := loopR h hN (r := 5) (rc := f_X7_readRank N (c + 1)) (by omega) P m6 (bs_prod N _)
    have m4 : MT n cnt b K E op (fun R L => f_X7_readRank N (c + 3) R K P L (nI 4) (nI op)) (f_X12_sum N (f_X12_expression N d)) := loopR h hN (r := 4) (rc := f_X7_readRank N (c + 2)) (by omega) P m5 (bs_sum N _)
    have m3 : MT n cnt b K E op (fun R L => f_X7_readRank N (c + 4) R K P L (nI 3) (nI op)) (f_X12_negation N (f_X12_expression N d) 66) := rank3 h hN (rc := f_X7_readRank N (c + 3)) P m4
    have m2 : MT n cnt b K E op (fun R L => f_X7_readRank N (c + 5) R K P L (nI 2) (nI op)) (f_X12_conjunction N (f_X12_expression N d)) := loopR h hN (r := 2) (rc := f_X7_readRank N (c + 4)) (by omega) P m3 (bs_conj N _)
    exact loopR h hN (r := 1) (rc := f_X7_readRank N (c + 5)) (by omega) P m2 (bs_expr N _)
