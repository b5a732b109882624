/-! lingered -/
theorem knK {m : Nat} {U v : VV} (h : ntR m U v) : ∃ K k : Nat, K ≤ k ∧ k ≤ 24 ∧ U.1 4 = nI k ∧ (∀ U' : VV, U'.1 = U.1 → f_X5_knownCount U' = some (nI K)) ∧ (∀ w : VV, w.1 64 = v.1 64 → w.1 65 = v.1 65 → f_X12_knownMany w = some (nI K)) ∧ ∀ i, i < K → (U.2.1 0 i = 2 ∧ ∃ j : Nat, j < i ∧ U.2.1 1 i = nI j ∧ v.2.1 69 i = nI j) ∨ (v.2.1 69 i = -1 ∧ (∃ t : Nat, t < m ∧ U.2.1 1 i = nI t ∧ v.2.1 66 i = nI t) ∧ U.2.1 2 i = v.2.1 67 i ∧ ((U.2.1 0 i = 0 ∧ v.2.1 68 i = 0) ∨ (U.2.1 0 i = 1 ∧ v.2.1 68 i = 1))) := by
  obtain ⟨k, hk, u1, u2, u3, u4, u5⟩ := h
  rcases u4 with e | ⟨j, hj, e⟩
  · refine ⟨k, k, Nat.le_refl k, hk, u1, fun U' hU => ?_, fun w w1 w2 => ?_, u5⟩
    · unfold f_X5_knownCount; rw [hU, u3, if_pos e, u1]
    · unfold f_X12_knownMany; rw [w2, if_pos e, w1, u2]
  · have hn : ¬ v.1 65 = -1 := by rw [e]; exact fun h => nI_pos (show j < 2 ^ 31 by omega) (by rw [h]; decide)
    refine ⟨j, k, hj, hk, u1, fun U' hU => ?_, fun w w1 w2 => ?_, fun i hi => u5 i (by omega)⟩
    · unfold f_X5_knownCount; rw [hU, u3, if_neg hn, u1, e]
      unfold jmin; rw [if_neg (nI_nlt hj (by omega))]
    · unfold f_X12_knownMany; rw [w2, if_neg hn, e]
theorem idx_m (i : Nat) : nI i + (-1) = nI i - 1 := (Int32.sub_eq_add_neg (nI i) 1).symm
theorem strikeR (N : Nat) (hN : 66 < N) {m : Nat} {U v : VV} (h : ntR m U v) :
    ∃ U' w, f_X5_strike N U = some U' ∧ (∀ Q : VV → Prop, (∃ r, itr (fun q : Int32 × Int32 × VV => f_X12_lingered_s80 N q.2.2 q.1 q.2.1) N (0, 0, w) = some r ∧ Q r.2) → ∃ r, itr (fun q : Int32 × Int32 × VV => f_X12_lingered_s80 N q.2.2 q.1 q.2.1) N (0, 0, w) = some r ∧ itr (fun q : Int32 × VV => f_X12_lingered_s7 N q.2 q.1) N (0, v) = some r) ∧ U'.1 = U.1 ∧ (∀ k, k ≠ 3 → U'.2.1 k = U.2.1 k) ∧ w.1 = v.1 ∧ (∀ k, k ≠ 70 → w.2.1 k = v.2.1 k) ∧ w.2.2 = v.2.2 ∧ ∀ K, f_X5_knownCount U = some (nI K) → K ≤ 24 → ∀ i, i < K → U'.2.1 3 i = w.2.1 70 i := by
  obtain ⟨K, k, hK, hk, h4, c1, c2, c3⟩ := knK h
  -- the class clears
  obtain ⟨U0, e1, e2, e3, e4⟩ : ∃ U0 : VV, (∀ r, itr (fun q : Int32 × VV => f_X5_strike_s28 N q.2 q.1) N (nI K - 1, U0) = some r → f_X5_strike N U = some r) ∧ U0.1 = U.1 ∧ (∀ k, k ≠ 3 → U0.2.1 k = U.2.1 k) ∧ ∀ i, i < 24 → U0.2.1 3 i = 0 := by
    obtain ⟨S24, hS24⟩ : ∃ S24 : Nat → VV, S24 = fun i => (U.1, (fun q => if q = 3 then (fun j => if j < i then 0 else U.2.1 3 j) else U.2.1 q), U.2.2) := ⟨_, rfl⟩
    have s0 : S24 0 = U := by
      rw [hS24]
      refine Prod.ext rfl (Prod.ext ?_ rfl)
      funext q
      show (if q = 3 then (fun j => if j < 0 then 0 else U.2.1 3 j) else U.2.1 q) = U.2.1 q
      by_cases e : q = 3
      · rw [if_pos e, e]; funext j; rw [if_neg (by omega)]
      · rw [if_neg e]
    refine ⟨S24 24, fun r hr => ?_, by rw [hS24], fun k hk => by rw [hS24]; exact if_neg hk, fun i hi => by rw [hS24]; show (if (3 : Nat) = 3 then (fun j => if j < 24 then (0 : Int32) else U.2.1 3 j) else U.2.1 3) i = 0; rw [if_pos rfl, if_pos hi]⟩
    unfold f_X5_strike
    have := itrF (A := fun q : Int32 × VV => f_X5_strike_s2 N q.2 q.1) 24 (fun i => (nI i, S24 i)) r (by
      intro i hi
      show f_X5_strike_s2 N (S24 i) (nI i) = _
      unfold f_X5_strike_s2
      rw [if_neg (show ¬ (24 : Int32) ≤ nI (i) from nI_ge (a := i) (b := 24) (by omega) (by omega)), pu_gin (show i < 24 by omega) (show 24 < 2 ^ 31 by omega), nI_clamp (show i < 2 ^ 31 by omega), nI_1]
      congr 3
      rw [hS24]
      refine Prod.ext rfl (Prod.ext ?_ rfl)
      funext q
      show (if q = 3 then upd (if (3 : Nat) = 3 then (fun j => if j < i then (0 : Int32) else U.2.1 3 j) else U.2.1 3) i 0 else if q = 3 then (fun j => if j < i then (0 : Int32) else U.2.1 3 j) else U.2.1 q) = if q = 3 then (fun j => if j < i + 1 then (0 : Int32) else U.2.1 3 j) else U.2.1 q
      by_cases e : q = 3
      · rw [if_pos e, if_pos e, if_pos rfl]
        funext j
        rw [pu_upd]
        by_cases ej : j = i
        · rw [if_pos ej, if_pos (by omega)]
        · rw [if_neg ej]
          by_cases hj : j < i
          · rw [if_pos hj, if_pos (by omega)]
          · rw [if_neg hj, if_neg (by omega)]
      · rw [if_neg e, if_neg e, if_neg e]) (by
      show f_X5_strike_s2 N (S24 24) (nI 24) = _
      unfold f_X5_strike_s2
      rw [if_pos (show (24 : Int32) ≤ nI 24 from by decide), c1 (S24 24) (by rw [hS24]), pu_bnd, hr, pu_inrO]) N 0 (by omega) (by omega)
    show itr _ N (0, U) = some r
    rw [← this, s0]; rfl
  -- the reference clears
  obtain ⟨w0, g1, g2, g3, g4, g5⟩ : ∃ w0 : VV, (∀ r, itr (fun q : Int32 × VV => f_X12_lingered_s35 N q.2 q.1) N (nI K - 1, w0) = some r → itr (fun q : Int32 × VV => f_X12_lingered_s7 N q.2 q.1) N (0, v) = some r) ∧ w0.1 = v.1 ∧ (∀ k, k ≠ 70 → w0.2.1 k = v.2.1 k) ∧ w0.2.2 = v.2.2 ∧ ∀ i, i < K → w0.2.1 70 i = 0 := by
    obtain ⟨S24, hS24⟩ : ∃ S24 : Nat → VV, S24 = fun i => (v.1, (fun q => if q = 70 then (fun j => if j < i then 0 else v.2.1 70 j) else v.2.1 q), v.2.2) := ⟨_, rfl⟩
    have s0 : S24 0 = v := by
      rw [hS24]
      refine Prod.ext rfl (Prod.ext ?_ rfl)
      funext q
      show (if q = 70 then (fun j => if j < 0 then 0 else v.2.1 70 j) else v.2.1 q) = v.2.1 q
      by_cases e : q = 70
      · rw [if_pos e, e]; funext j; rw [if_neg (by omega)]
      · rw [if_neg e]
    refine ⟨S24 K, fun r hr => ?_, by rw [hS24], fun k hk => by rw [hS24]; exact if_neg hk, by rw [hS24], fun i hi => by rw [hS24]; show (if (70 : Nat) = 70 then (fun j => if j < K then (0 : Int32) else v.2.1 70 j) else v.2.1 70) i = 0; rw [if_pos rfl, if_pos hi]⟩
    have := itrF (A := fun q : Int32 × VV => f_X12_lingered_s7 N q.2 q.1) K (fun i => (nI i, S24 i)) r (by
      intro i hi
      show f_X12_lingered_s7 N (S24 i) (nI i) = _
      unfold f_X12_lingered_s7
      rw [c2 (S24 i) (by rw [hS24]) (by rw [hS24]), pu_bnd, if_neg (nI_ge hi (show K < 2 ^ 31 by omega)), pu_gin (show i < 24 by omega) (show 24 < 2 ^ 31 by omega), nI_clamp (show i < 2 ^ 31 by omega), nI_1]
      congr 3
      rw [hS24]
      refine Prod.ext rfl (Prod.ext ?_ rfl)
      funext q
      show (if q = 70 then upd (if (70 : Nat) = 70 then (fun j => if j < i then (0 : Int32) else v.2.1 70 j) else v.2.1 70) i 0 else if q = 70 then (fun j => if j < i then (0 : Int32) else v.2.1 70 j) else v.2.1 q) = if q = 70 then (fun j => if j < i + 1 then (0 : Int32) else v.2.1 70 j) else v.2.1 q
      by_cases e : q = 70
      · rw [if_pos e, if_pos e, if_pos rfl]
        funext j
        rw [pu_upd]
        by_cases ej : j = i
        · rw [if_pos ej, if_pos (by omega)]
        · rw [if_neg ej]
          by_cases hj : j < i
          · rw [if_pos hj, if_pos (by omega)]
          · rw [if_neg hj, if_neg (by omega)]
      · rw [if_neg e, if_neg e, if_neg e]) (by
      show f_X12_lingered_s7 N (S24 K) (nI K) = _
      unfold f_X12_lingered_s7
      rw [c2 (S24 K) (by rw [hS24]) (by rw [hS24]), pu_bnd, if_pos (nI_le (Nat.le_refl K) (by omega)), pu_bnd, hr, pu_inrO]) N 0 (by omega) (by omega)
    rw [← this, s0]; rfl
  -- both strike, side by side; the reference's loop ends in the next one
  obtain ⟨U', w, k1, k2, k3⟩ : ∃ U' w, itr (fun q : Int32 × VV => f_X5_strike_s28 N q.2 q.1) N (nI K - 1, U0) = some U' ∧ (∀ r, itr (fun q : Int32 × Int32 × VV => f_X12_lingered_s80 N q.2.2 q.1 q.2.1) N (0, 0, w) = some r → itr (fun q : Int32 × VV => f_X12_lingered_s35 N q.2 q.1) N (nI K - 1, w0) = some r) ∧ U'.1 = U.1 ∧ (∀ k, k ≠ 3 → U'.2.1 k = U.2.1 k) ∧ w.1 = v.1 ∧ (∀ k, k ≠ 70 → w.2.1 k = v.2.1 k) ∧ w.2.2 = v.2.2 ∧ ∀ i, i < K → U'.2.1 3 i = w.2.1 70 i := by
    have gen : ∀ (i : Nat) (fu : Nat) (Ua wa : VV), i ≤ K → i < fu → fu ≤ N → Ua.1 = U.1 → (∀ k, k ≠ 3 → Ua.2.1 k = U.2.1 k) → wa.1 = v.1 → (∀ k, k ≠ 70 → wa.2.1 k = v.2.1 k) → wa.2.2 = v.2.2 → (∀ j, j < K → Ua.2.1 3 j = wa.2.1 70 j) → ∃ U' w, itr (fun q : Int32 × VV => f_X5_strike_s28 N q.2 q.1) fu (nI i - 1, Ua) = some U' ∧ (∀ r, itr (fun q : Int32 × Int32 × VV => f_X12_lingered_s80 N q.2.2 q.1 q.2.1) N (0, 0, w) = some r → itr (fun q : Int32 × VV => f_X12_lingered_s35 N q.2 q.1) fu (nI i - 1, wa) = some r) ∧ U'.1 = U.1 ∧ (∀ k, k ≠ 3 → U'.2.1 k = U.2.1 k) ∧ w.1 = v.1 ∧ (∀ k, k ≠ 70 → w.2.1 k = v.2.1 k) ∧ w.2.2 = v.2.2 ∧ ∀ i, i < K → U'.2.1 3 i = w.2.1 70 i := by
      intro i
      induction i with
      | zero =>
        intro fu Ua wa hi hf _ q1 q2 q3 q4 q5 q6
        refine ⟨Ua, wa, itr_e (by omega) ?_, fun r hr => itr_e (by omega) ?_, q1, q2, q3, q4, q5, q6⟩
        · show f_X5_strike_s28 N Ua (nI 0 - 1) = _
          unfold f_X5_strike_s28; rw [if_pos (show nI 0 - 1 < 0 from by decide), pu_inrO]
        · show f_X12_lingered_s35 N wa (nI 0 - 1) = _
          unfold f_X12_lingered_s35; rw [if_pos (show nI 0 - 1 < 0 from by decide), hr, pu_inrO]
      | succ i ih =>
        intro fu Ua wa hi hf hfN q1 q2 q3 q4 q5 q6
        have next : ∀ (Ub wb : VV), f_X5_strike_s28 N Ua (nI i) = some (.inl (nI i - 1, Ub)) → f_X12_lingered_s35 N wa (nI i) = some (.inl (nI i - 1, wb)) → Ub.1 = U.1 → (∀ k, k ≠ 3 → Ub.2.1 k = U.2.1 k) → wb.1 = v.1 → (∀ k, k ≠ 70 → wb.2.1 k = v.2.1 k) → wb.2.2 = v.2.2 → (∀ j, j < K → Ub.2.1 3 j = wb.2.1 70 j) → ∃ U' w, itr (fun q : Int32 × VV => f_X5_strike_s28 N q.2 q.1) fu (nI (i + 1) - 1, Ua) = some U' ∧ (∀ r, itr (fun q : Int32 × Int32 × VV => f_X12_lingered_s80 N q.2.2 q.1 q.2.1) N (0, 0, w) = some r → itr (fun q : Int32 × VV => f_X12_lingered_s35 N q.2 q.1) fu (nI (i + 1) - 1, wa) = some r) ∧ U'.1 = U.1 ∧ (∀ k, k ≠ 3 → U'.2.1 k = U.2.1 k) ∧ w.1 = v.1 ∧ (∀ k, k ≠ 70 → w.2.1 k = v.2.1 k) ∧ w.2.2 = v.2.2 ∧ ∀ i, i < K → U'.2.1 3 i = w.2.1 70 i := by
          intro Ub wb s1 s2 b1 b2 b3 b4 b5 b6
          obtain ⟨U', w, d1, d2, d3⟩ := ih (fu - 1) Ub wb (by omega) (by omega) (by omega) b1 b2 b3 b4 b5 b6
          rw [nI_pred]
          exact ⟨U', w, (itr_s (A := fun q : Int32 × VV => f_X5_strike_s28 N q.2 q.1) (s := (nI i, Ua)) (by omega) s1).trans d1, fun r hr => (itr_s (A := fun q : Int32 × VV => f_X12_lingered_s35 N q.2 q.1) (s := (nI i, wa)) (by omega) s2).trans (d2 r hr), d3⟩
        have z : wa.2.1 70 i = Ua.2.1 3 i := (q6 i (by omega)).symm
        rcases c3 i (by omega) with ⟨a1, j, hj, a2, a3⟩ | ⟨a1, ⟨t, ht, a2, a3⟩, a4, a5⟩
        · by_cases es : Ua.2.1 3 i = 0
          · refine next (sr Ua 3 j 1) (sr wa 70 j 1) ?_ ?_ q1 (fun k hk => (if_neg hk).trans (q2 k hk)) q3 (fun k hk => (if_neg hk).trans (q4 k hk)) q5 (fun x hx => ?_)
            · unfold f_X5_strike_s28 f_X5_strike_b76 f_X5_has
              simp only [if_neg (nI_pos (show i < 2 ^ 31 by omega)), pu_gin (show i < 24 by omega) (show 24 < 2 ^ 31 by omega), nI_clamp (show i < 2 ^ 31 by omega), q2 0 (by omega), q2 1 (by omega), if_pos a1, if_pos es, a2, if_neg (nI_pos (show j < 2 ^ 31 by omega)), q1, h4, if_neg (nI_ge (show j < k by omega) (show k < 2 ^ 31 by omega)), pu_bnd, n10, ↓reduceIte, pu_gin (show j < 24 by omega) (show 24 < 2 ^ 31 by omega), nI_clamp (show j < 2 ^ 31 by omega), idx_m]
            · unfold f_X12_lingered_s35 f_X12_lingered_b70
              simp only [if_neg (nI_pos (show i < 2 ^ 31 by omega)), pu_gin (show i < 24 by omega) (show 24 < 2 ^ 31 by omega), nI_clamp (show i < 2 ^ 31 by omega), q4 69 (by omega), z, if_pos es, a3, if_neg (show ¬ nI j = -1 from fun h => nI_pos (show j < 2 ^ 31 by omega) (by rw [h]; decide)), pu_gin (show j < 24 by omega) (show 24 < 2 ^ 31 by omega), nI_clamp (show j < 2 ^ 31 by omega), idx_m]
            · show upd (Ua.2.1 3) j 1 x = upd (wa.2.1 70) j 1 x
              rw [pu_upd, pu_upd, q6 x hx]
          · refine next Ua wa ?_ ?_ q1 q2 q3 q4 q5 q6
            · unfold f_X5_strike_s28 f_X5_strike_b76
              simp only [if_neg (nI_pos (show i < 2 ^ 31 by omega)), pu_gin (show i < 24 by omega) (show 24 < 2 ^ 31 by omega), nI_clamp (show i < 2 ^ 31 by omega), q2 0 (by omega), if_pos a1, if_neg es, idx_m]
            · unfold f_X12_lingered_s35 f_X12_lingered_b70
              simp only [if_neg (nI_pos (show i < 2 ^ 31 by omega)), pu_gin (show i < 24 by omega) (show 24 < 2 ^ 31 by omega), nI_clamp (show i < 2 ^ 31 by omega), z, if_neg es, idx_m]
        · have n2 : ¬ U.2.1 0 i = 2 := by
            rcases a5 with ⟨a, _⟩ | ⟨a, _⟩
            · rw [a]; decide
            · rw [a]; decide
          refine next Ua wa ?_ ?_ q1 q2 q3 q4 q5 q6
          · unfold f_X5_strike_s28 f_X5_strike_b76
            simp only [if_neg (nI_pos (show i < 2 ^ 31 by omega)), pu_gin (show i < 24 by omega) (show 24 < 2 ^ 31 by omega), nI_clamp (show i < 2 ^ 31 by omega), q2 0 (by omega), if_neg n2, idx_m]
          · unfold f_X12_lingered_s35 f_X12_lingered_b70
            simp only [if_neg (nI_pos (show i < 2 ^ 31 by omega)), pu_gin (show i < 24 by omega) (show 24 < 2 ^ 31 by omega), nI_clamp (show i < 2 ^ 31 by omega), q4 69 (by omega), a1, ↓reduceIte, idx_m, ite_self]
    exact gen K N U0 w0 (Nat.le_refl K) (by omega) (Nat.le_refl N) e2 e3 g2 g3 g4 (fun j hj => by rw [e4 j (by omega), g5 j hj])
  refine ⟨U', w, e1 _ k1, fun Q ⟨r, hr, _⟩ => ⟨r, hr, g1 _ (k2 r hr)⟩, k3.1, k3.2.1, k3.2.2.1, k3.2.2.2.1, k3.2.2.2.2.1, fun K' hK' hK24 i hi => ?_⟩
  rw [c1 U rfl] at hK'
  have : K = K' := (nI_eq (by omega) (by omega)).mp (Option.some.inj hK')
  subst this
  exact k3.2.2.2.2.2 i hi
/-- do the notes hold? -/
theorem holdR (N : Nat) (hN : 66 < N) {m : Nat} {U v U' w Tr : VV} (hm : m ≤ 3) (h : ntR m U v) (u1 : U'.1 = U.1) (u2 : ∀ k, k ≠ 3 → U'.2.1 k = U.2.1 k) (w1 : w.1 64 = v.1 64) (w2 : w.1 65 = v.1 65) (w3 : ∀ k, 66 ≤ k → k ≤ 69 → w.2.1 k = v.2.1 k) (hs : ∀ K, f_X5_knownCount U = some (nI K) → K ≤ 24 → ∀ i, i < K → U'.2.1 3 i = w.2.1 70 i) (hd : dayR 1 m Tr w) :
    ∃ z, f_X5_holdFor N U' Tr = some z ∧ itr (fun q : Int32 × VV => f_X12_isLinger_s31 N q.2 q.1) N (0, w) = some (z, w) := by
  obtain ⟨K, k, hK, hk, h4, c1, c2, c3⟩ := knK h
  have hs' := hs K (c1 U rfl) (by omega)
  unfold f_X5_holdFor
  obtain ⟨r, r', g1, g2, g3⟩ := itr2 (A := fun q : Int32 => f_X5_holdFor_s2 N U' Tr q) (B := fun q : Int32 × VV => f_X12_isLinger_s31 N q.2 q.1) (fun x s s' => ∃ i, x = K - i ∧ i ≤ K ∧ s = nI i ∧ s' = (nI i, w)) (fun r r' => r' = (r, w)) (by
    intro x s s' hR
    obtain ⟨i, hx, hi, rfl, rfl⟩ := hR
    simp only
    unfold f_X5_holdFor_s2 f_X12_isLinger_s31
    rw [c1 U' u1, c2 w w1 w2, pu_bnd, pu_bnd]
    rcases Nat.lt_or_ge i K with hlt | hge
    · have skip : f_X5_holdFor_b91 N U' Tr (nI i) = some (.inl (nI (i + 1))) ∧ f_X12_isLinger_b97 N w (nI i) = some (.inl (nI (i + 1), w)) := by
        unfold f_X5_holdFor_b91 f_X12_isLinger_b97; rw [nI_1]; exact ⟨rfl, rfl⟩
      have z : w.2.1 70 i = U'.2.1 3 i := (hs' i hlt).symm
      simp only [if_neg (nI_ge hlt (show K < 2 ^ 31 by omega)), pu_gin (show i < 24 by omega) (show 24 < 2 ^ 31 by omega), nI_clamp (show i < 2 ^ 31 by omega), u2 0 (by omega), u2 1 (by omega), u2 2 (by omega), w3 66 (by omega) (by omega), w3 67 (by omega) (by omega), w3 69 (by omega) (by omega), z]
      rcases c3 i hlt with ⟨a1, j, hj, a2, a3⟩ | ⟨a1, ⟨t, ht, a2, a3⟩, a4, a5⟩
      · left
        simp only [if_pos a1, a3, if_neg (show ¬ nI j = -1 from fun h => nI_pos (show j < 2 ^ 31 by omega) (by rw [h]; decide)), skip.1, skip.2, ite_self]
        exact ⟨K - (i + 1), _, _, by omega, rfl, rfl, i + 1, rfl, hlt, rfl, rfl⟩
      · have n2 : ¬ U.2.1 0 i = 2 := by
          rcases a5 with ⟨a, _⟩ | ⟨a, _⟩
          · rw [a]; decide
          · rw [a]; decide
        by_cases es : U'.2.1 3 i = 0
        · simp only [if_neg n2, if_pos es, a1, ↓reduceIte, a2, a3, if_neg (nI_pos (show t < 2 ^ 31 by omega)), if_neg (show ¬ (3 : Int32) ≤ nI (t) from nI_ge (a := t) (b := 3) (by omega) (by omega)), pu_gin (show t < 3 by omega) (show 3 < 2 ^ 31 by omega), nI_clamp (show t < 2 ^ 31 by omega), lateInR hd ht hm, pu_bnd, ← a4]
          have fin : ∀ y : Int32, (y = 0 ∨ y = 1) → (f_X5_holdFor_b71 N U' Tr (nI i) y = some (.inl (nI (i + 1))) ∧ f_X12_isLinger_b86 N w (nI i) y = some (.inl (nI (i + 1), w))) ∨ (f_X5_holdFor_b71 N U' Tr (nI i) y = some (.inr 0) ∧ f_X12_isLinger_b86 N w (nI i) y = some (.inr (0, w))) := by
            intro y hy
            unfold f_X5_holdFor_b71 f_X12_isLinger_b86 f_X5_holdFor_b86
            rw [pu_gin (show i < 24 by omega) (show 24 < 2 ^ 31 by omega), pu_gin (show i < 24 by omega) (show 24 < 2 ^ 31 by omega), nI_clamp (show i < 2 ^ 31 by omega), u2 0 (by omega), w3 68 (by omega) (by omega), skip.1, skip.2]
            rcases a5 with ⟨b1, b2⟩ | ⟨b1, b2⟩
            · rw [b1, b2, if_neg (show ¬ (0 : Int32) = 1 by decide)]
              by_cases ey : y = 0
              · left; rw [if_pos ey, if_pos ey]; exact ⟨rfl, rfl⟩
              · right; rw [if_neg ey, if_neg ey, pu_inrO, pu_inrO]; exact ⟨rfl, rfl⟩
            · rw [b1, b2, if_pos rfl]
              by_cases ey : y = 1
              · left; rw [if_pos ey, if_pos ey]; exact ⟨rfl, rfl⟩
              · right; rw [if_neg ey, if_neg ey, pu_inrO, pu_inrO]; exact ⟨rfl, rfl⟩
          by_cases el : Tr.2.1 14 t < U.2.1 2 i
          · simp only [if_pos el]
            rcases fin 0 (Or.inl rfl) with ⟨f1, f2⟩ | ⟨f1, f2⟩
            · left; rw [f1, f2]; exact ⟨K - (i + 1), _, _, by omega, rfl, rfl, i + 1, rfl, hlt, rfl, rfl⟩
            · right; rw [f1, f2]; exact ⟨_, _, rfl, rfl, rfl⟩
          · simp only [if_neg el]
            rcases fin 1 (Or.inr rfl) with ⟨f1, f2⟩ | ⟨f1, f2⟩
            · left; rw [f1, f2]; exact ⟨K - (i + 1), _, _, by omega, rfl, rfl, i + 1, rfl, hlt, rfl, rfl⟩
            · right; rw [f1, f2]; exact ⟨_, _, rfl, rfl, rfl⟩
        · left
          simp only [if_neg n2, if_neg es, skip.1, skip.2]
          exact ⟨K - (i + 1), _, _, by omega, rfl, rfl, i + 1, rfl, hlt, rfl, rfl⟩
    · right
      have : i = K := by omega
      subst this
      rw [if_pos (nI_le (Nat.le_refl i) (show i < 2 ^ 31 by omega)), if_pos (nI_le (Nat.le_refl i) (show i < 2 ^ 31 by omega)), pu_inrO, pu_inrO]
      exact ⟨_, _, rfl, rfl, rfl⟩) N K 0 (0, w) (by omega) ⟨0, rfl, by omega, rfl, rfl⟩
  exact ⟨r, g1, by rw [g2, g3]⟩
theorem way_ling {n m : Nat} {P L Y v : VV} (x y : Int32) (hP : PR n m P L v) (hw : waR Y 0) (hr : rfR v) (hxy : ∀ q, q < n → (nI q = x ↔ nI q = y)) : wayR n P (si Y 4 x) (si v 53 y) 0 := by
  obtain ⟨g1, g2, g3, g4⟩ := way_std hP hw hr
  exact ⟨hxy, g2, g3, g4⟩
theorem lingOne (N : Nat) (hN : 66 < N) {n m : Nat} {X : VV} {T : Nat → Int32} {R P L S Im Wa Wb Z U D E v L' w : VV} (Wo Tr C : VV) (h : INV0 n m X T R P L S Im Wa Wb Z U D E v) (hL : LF L L') (hk : KV v w) (x y : Int32) (hxy : ∀ q, q < n → (nI q = x ↔ nI q = y)) :
    ∃ Y Tr1 C' L2 Tr2 w1 w2, f_X10_reset N Wo = some Y ∧ f_X8_copy Tr S = some Tr1 ∧ f_X0_goThrough N C P L' (si Tr1 0 0) (si Y 4 x) = some (C', L2, Tr2) ∧ f_X12_copies N w 1 0 = some w1 ∧ f_X12_passes N (si (sr w1 32 1 0) 53 y) 1 0 = some w2 ∧ LF L L2 ∧ KV v (si w2 53 (-1)) ∧ dayR 1 m Tr2 (si w2 53 (-1)) ∧ w2.2.1 70 = w.2.1 70 := by
  obtain ⟨hP, hS, _, _, _, _, hRf, _⟩ := inv_kv h hL hk
  obtain ⟨Y, y1, y2⟩ := resetR N hN Wo
  obtain ⟨Tr1, w1, t1, t2, t3, t4, t5, t6, t7, t8⟩ := try1 N hN Tr hP hS (way_std hP y2 hRf)
  have hF : FR 1 w (sr w1 32 1 0) := t3.trans (FR_5 32 0 (by omega) (by omega))
  have hP1 : PR n m P L' (sr w1 32 1 0) := PR_FR hP (LF.refl _) hF
  have hRf1 := rf_FR hRf hF
  have hP2 : PR n m P L' (si (sr w1 32 1 0) 53 y) := hP1
  have hc : carR True 1 (si Tr1 0 0) (si (sr w1 32 1 0) 53 y) := car_date t6.1 0
  obtain ⟨C', L2, Tr2, w2, q1, q2, q3, q4, q5, q6, q7, q8, q9, q10⟩ := day1 (aw := True) N hN C hP2 (way_ling x y hP1 y2 hRf1 hxy) (fun e => absurd e (by rw [show (si (sr w1 32 1 0) 53 y).1 50 = 0 from hRf1.1.1]; decide)) hc t6.2.2.1
  refine ⟨Y, Tr1, C', L2, Tr2, w1, w2, y1, t1, q1, t2, q2, hL.trans q4, hk.trans ⟨fun k hk => ?_, fun k hk => ?_, fun c hc => ?_⟩, q9, ?_⟩
  · show (if k = 53 then (-1 : Int32) else w2.1 k) = w.1 k
    by_cases e : k = 53
    · rw [if_pos e, e]; exact hRf.1.2.2.2.symm
    · rw [if_neg e, q10 k (by omega) (by omega) (by omega) (by omega)]
      show (if k = 53 then y else w1.1 k) = w.1 k
      rw [if_neg e, t8]
  · show w2.2.1 k = _
    rw [q3.2.1 k (by omega)]
    exact hF.2.1 k (by omega)
  · have hcs := cs_FR q3 hc; exact cs_tr (cs_FR hF hc) hcs
  · rw [q3.2.1 70 (by omega)]
    exact hF.2.1 70 (by omega)
theorem st_lingered (N : Nat) (hN : 66 < N) : ST_lingered N INV := by
  intro cv T B v hI
  obtain ⟨n, m, h⟩ := hI
  have h' := inv_kv h (LF.refl _) (KV_0 v)
  obtain ⟨hP, hS, hT, hIm, hWa, hWb, hRf, hH, hU, hRd, hG, hE⟩ := id h'
  have hn := PR_n hP
  have hm := PR_m hP
  obtain ⟨U', w0, s1, s2, s3, s4, s5, s6, s7, s8⟩ := strikeR N hN hU
  have kv0 : KV (si v 0 0) w0 := ⟨fun k _ => by rw [s5], fun k hk => s6 k (by omega), fun c _ => ⟨s6 10 (by omega), fun k _ _ => by rw [s6 k (by omega)], fun k _ _ _ _ => by rw [s6 k (by omega)], fun k _ _ _ _ => by rw [s6 k (by omega)]⟩⟩
  unfold f_X11_lingered f_X12_lingered
  rw [s1, pu_bnd]
  obtain ⟨r, r', g1, g2, g3⟩ := itr2 (A := fun q : Int32 × Int32 × VV × VV × VV × VV × VV => f_X11_lingered_s11 N (cv 0) (cv 6) q.2.2.1 (cv 8) q.2.2.2.1 q.2.2.2.2.1 q.2.2.2.2.2.1 q.2.2.2.2.2.2 q.1 q.2.1) (B := fun q : Int32 × Int32 × VV => f_X12_lingered_s80 N q.2.2 q.1 q.2.1) (fun k s s' => ∃ i, k = n + 1 - i ∧ i ≤ n + 1 ∧ s.1 = s'.1 ∧ s.2.1 = nI i ∧ s'.2.1 = nI i ∧ LF (cv 7) s.2.2.1 ∧ KV (si v 0 0) s'.2.2 ∧ s'.2.2.2.1 70 = w0.2.1 70 ∧ s.2.2.2.2.2.2 = U') (fun r r' => r.1 = r'.1 ∧ LF (cv 7) r.2.1 ∧ KV (si v 0 0) r'.2 ∧ r.2.2.2.2.2 = U') (by
    intro k s s' hR
    obtain ⟨x1, x2, L, Tr, C, Wo, U1⟩ := s
    obtain ⟨y1, y2, w⟩ := s'
    obtain ⟨i, hk, hi, f1, f2, f3, f4, f5, f6, f7⟩ := hR
    simp only at f1 f2 f3 f4 f5 f6 f7
    subst f1 f2 f3 f7
    simp only
    have e3 : w.2.1 3 0 = nI n := by rw [f5.2.1 3 (by omega)]; exact PR_v0 hP
    rcases Nat.lt_or_ge i (n + 1) with hlt | hge
    · left
      have one : ∀ y : Int32, (∀ q, q < n → (nI q = nI i ↔ nI q = y)) → ∃ t t', f_X11_lingered_s11 N (cv 0) (cv 6) L (cv 8) Tr C Wo U1 x1 (nI i) = some (.inl t) ∧ f_X12_lingered_b107 N w (nI i) y x1 = some (.inl t') ∧ ∃ j, n + 1 - (i + 1) = n + 1 - j ∧ j ≤ n + 1 ∧ t.1 = t'.1 ∧ t.2.1 = nI j ∧ t'.2.1 = nI j ∧ LF (cv 7) t.2.2.1 ∧ KV (si v 0 0) t'.2.2 ∧ t'.2.2.2.1 70 = w0.2.1 70 ∧ t.2.2.2.2.2.2 = U1 := by
        intro y hy
        obtain ⟨Y, Tr1, C', L2, Tr2, w1, w2, q1, q2, q3, q4, q5, q6, q7, q8, q9⟩ := lingOne N hN Wo Tr C h' f4 f5 (nI i) y hy
        obtain ⟨z, z1, z2⟩ := holdR (w := si w2 53 (-1)) N hN hm hU s3 s4 (q7.1 64 (by omega)) (q7.1 65 (by omega)) (fun k a b => q7.2.1 k (by omega)) (fun K a b j hj => by rw [s8 K a b j hj]; show w0.2.1 70 j = w2.2.1 70 j; rw [q9, f6]) q8
        unfold f_X11_lingered_s11 f_X12_lingered_b107 f_X12_isLinger
        rw [PR_P0 hP, if_neg (show ¬ nI n < nI i from nI_nlt (by omega) (by omega)), q1, pu_bnd, q2, pu_bnd, q3, pu_bnd, z1, pu_bnd, q4, pu_bnd, q5, pu_bnd, z2, pu_bnd]
        unfold f_X11_lingered_b98 f_X12_lingered_b120
        by_cases ez : z = 0
        · rw [if_pos ez, if_pos ez, nI_1]
          exact ⟨_, _, rfl, rfl, i + 1, rfl, by omega, (Int32.or_zero).symm, rfl, rfl, q6, q7, by show w2.2.1 70 = _; rw [q9, f6], rfl⟩
        · rw [if_neg ez, if_neg ez, nI_1]
          exact ⟨_, _, rfl, rfl, i + 1, rfl, by omega, rfl, rfl, rfl, q6, q7, by show w2.2.1 70 = _; rw [q9, f6], rfl⟩
      unfold f_X12_lingered_s80
      rw [e3, if_neg (show ¬ nI n < nI i from nI_nlt (by omega) (by omega))]
      rcases Nat.lt_or_ge i n with hl2 | hg2
      · rw [if_neg (nI_ge hl2 (show n < 2 ^ 31 by omega))]
        obtain ⟨t, t', o1, o2, o3⟩ := one (nI i) (fun q _ => Iff.rfl)
        exact ⟨_, t, t', by omega, o1, o2, o3⟩
      · have : i = n := by omega
        subst this
        rw [if_pos (nI_le (Nat.le_refl i) (show i < 2 ^ 31 by omega))]
        obtain ⟨t, t', o1, o2, o3⟩ := one (-1) (fun q hq => ⟨fun e => absurd ((nI_eq (by omega) (by omega)).mp e) (by omega), fun e => absurd (show nI q < 0 by rw [e]; decide) (nI_pos (by omega))⟩)
        exact ⟨_, t, t', by omega, o1, o2, o3⟩
    · right
      have : i = n + 1 := by omega
      subst this
      unfold f_X11_lingered_s11 f_X12_lingered_s80
      rw [PR_P0 hP, e3, if_pos (nI_lt (Nat.lt_succ_self n) (by omega)), if_pos (nI_lt (Nat.lt_succ_self n) (by omega)), pu_inrO, pu_inrO]
      exact ⟨_, _, rfl, rfl, rfl, f4, f5, rfl⟩) N (n + 1) (0, 0, cv 7, cv 10, cv 11, cv 14, U') (0, 0, w0) (by omega) ⟨0, by omega, by omega, rfl, rfl, rfl, LF.refl _, kv0, rfl, rfl⟩
  obtain ⟨r0, q1, q2⟩ := s2 (fun _ => True) ⟨r', g2, trivial⟩
  rw [g2] at q1
  injection q1 with q1
  subst q1
  obtain ⟨r1, L', Tr', C', W', U2⟩ := r
  obtain ⟨r2, w⟩ := r'
  simp only at g3
  obtain ⟨rfl, p1, p2, rfl⟩ := g3
  refine ⟨_, _, _, _, _, _, _, g1, q2, n, m, ?_⟩
  obtain ⟨hP1, hS1, hT1, hIm1, hWa1, hWb1, hRf1, hH1, hU1, hRd1, hG1, hE1⟩ := inv_kv h' p1 p2
  refine ⟨hP1, hS1, hT1, hIm1, hWa1, hWb1, hRf1, hH1, ?_, hRd1, hG1, hE1⟩
  show ntR m U2 w
  unfold ntR at *
  rw [s3, s4 0 (by omega), s4 1 (by omega), s4 2 (by omega)]
  exact hU1
