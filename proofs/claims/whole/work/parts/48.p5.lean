/-- who sits stays: both sides alike -/
theorem TS3 (N : Nat) {n m c t p y : Nat} {aw : Prop} {late d : Int32} {P Y L0 S0 v0 L S v : VV} {b : Nat → Int32} (h0 : PR n m P L0 v0) (hp : p < n) (ht : t < m) (hc : c < 23) (hy : y ≤ 99) (hsg : ∀ u, u < 3 → ∃ s : Nat, s ≤ 3 ∧ S0.2.1 3 u = nI s) (h : core n c t aw late P Y L0 S0 v0 L S v b) :
    ∃ S' v', f_X0_sitDown_b185 N P L S Y (nI p) (nI t) d (nI y) = some (1, L, S') ∧ (gin (nI (3 * c + t)) 69 (if nI y ≤ 0 then f_X12_takesSeat_b222 N v d (nI y) (v.2.1 42 ((nI (3 * c + t)).toNatClampNeg)) else gin (nI (8 * c + p)) 184 (gin (nI (8 * c + p)) 184 (f_X12_takesSeat_b222 N (sr v 39 ((nI (8 * c + p)).toNatClampNeg) ((v.2.1 39 ((nI (8 * c + p)).toNatClampNeg)) + (v.2.1 42 ((nI (3 * c + t)).toNatClampNeg)))) d (nI y) (v.2.1 42 ((nI (3 * c + t)).toNatClampNeg)))))) = some v' ∧ core n c t aw late P Y L0 S0 v0 L S' v' b := by
  have hn := PR_n h0
  have hm := PR_m h0
  obtain ⟨s, hs, hse⟩ := hsg t (by omega)
  have hS3 : S.2.1 3 t = nI s := by rw [h.2.2.2.1.2.1]; exact hse
  have hv42 : v.2.1 42 (3 * c + t) = nI s := by rw [RE_eq h.2.2.1.2.2.2.2.2.2.1 (show t < 3 by omega) rfl]; exact hS3
  have key : ∀ S2 v2 : VV, core n c t aw late P Y L0 S0 v0 L S2 v2 b → ∃ S' v', f_X0_sitDown_b212 N P L S2 Y (nI t) d (nI y) (nI s) = some (1, L, S') ∧ f_X12_takesSeat_b222 N v2 d (nI y) (nI s) = some v' ∧ core n c t aw late P Y L0 S0 v0 L S' v' b := by
    intro S2 v2 h2
    have h57 : v2.1 57 = S2.2.1 17 t := h2.2.2.2.2.2.2.2.1
    unfold f_X0_sitDown_b212 f_X0_sitDown_b232 f_X12_takesSeat_b222 f_X12_takesSeat_b250
    simp only [pu_gin (show t < 3 by omega) (show 3 < 2 ^ 31 by omega), nI_clamp (show t < 2 ^ 31 by omega)]
    by_cases h3 : s = 3
    · subst h3
      rw [if_neg (show ¬ nI 3 < 3 from by decide), if_pos (show nI 3 = 3 from rfl)]
      refine ⟨_, _, rfl, rfl, c_ends h2 ?_⟩
      rw [h57]; congr 1; grind
    · rw [if_pos (show nI (s) < (3 : Int32) from nI_lt (a := s) (b := 3) (by omega) (by omega)), if_neg (show ¬ nI (s) = (3 : Int32) from fun h => absurd ((nI_eq (a := s) (b := 3) (by omega) (by omega)).mp h) (by omega))]
      refine ⟨_, _, rfl, rfl, c_ends h2 ?_⟩
      rw [h57]; congr 1; grind
  unfold f_X0_sitDown_b185
  simp only [pu_gin (show t < 3 by omega) (show 3 < 2 ^ 31 by omega), nI_clamp (show t < 2 ^ 31 by omega), pu_gin (show 3 * c + t < 69 by omega) (show 69 < 2 ^ 31 by omega), nI_clamp (show 3 * c + t < 2 ^ 31 by omega), pu_gin (show p < 8 by omega) (show 8 < 2 ^ 31 by omega), nI_clamp (show p < 2 ^ 31 by omega), pu_gin (show 8 * c + p < 184 by omega) (show 184 < 2 ^ 31 by omega), nI_clamp (show 8 * c + p < 2 ^ 31 by omega), hS3, hv42]
  by_cases h1 : nI y ≤ 0
  · rw [if_pos h1, if_pos h1]; exact key S v h
  · rw [if_neg h1, if_neg h1]
    refine key _ _ (c_cross h hn hp ?_)
    rw [RE_eq h.2.2.1.2.2.2.1 (show p < 8 by omega) rfl]
theorem TS2 (N : Nat) (hN : 66 < N) {n m c t p : Nat} {aw : Prop} {late bn d : Int32} {P Y L0 S0 v0 L S v : VV} {b : Nat → Int32} (h0 : PR n m P L0 v0) (hW : wayR n P Y v0 bn) (hp : p < n) (ht : t < m) (hc : c < 23) (hsg : ∀ u, u < 3 → ∃ s : Nat, s ≤ 3 ∧ S0.2.1 3 u = nI s) (h : core n c t aw late P Y L0 S0 v0 L S v b) :
    ∃ L' S' v', f_X0_sitDown_b162 N P L S Y (nI p) (nI t) late d = some (1, L', S') ∧ f_X12_takesSeat_b185 N v (nI c) (nI p) (nI t) late (nI (8 * c + p)) (nI (3 * c + t)) d = some v' ∧ core n c t aw late P Y L0 S0 v0 L' S' v' b := by
  have hn := PR_n h0
  have hm := PR_m h0
  have hP := PR_FR h0 h.2.1 h.1
  have hWv := way_FR hW h.1
  unfold f_X0_sitDown_b162 f_X12_takesSeat_b185
  by_cases h50 : v.1 50 = 4
  · rw [if_neg (hWv.2.1.2.2.2.1 h50)]
    unfold f_X12_stayOf
    rw [if_pos h50, pu_bnd]
    obtain ⟨S', v', e1, e2, e3⟩ := TS3 (y := 0) (d := d) N h0 hp ht hc (by omega) hsg h
    exact ⟨L, S', v', e1, e2, e3⟩
  · rw [if_pos (hWv.2.1.2.2.2.2.1 h50)]
    obtain ⟨y, L', v', g1, g2, g3, g4, g5⟩ := stayR N hN hP hp ht hc hWv.1 late (h.2.2.1.2.2.2.2.2.2.2 t (by omega)) h.2.2.1.1.1 h50
    rw [show f_X0_manner N P L S Y 1 (nI p) (nI t) late = some (nI y, L') from g2, g3, pu_bnd, pu_bnd]
    obtain ⟨S', v'', e1, e2, e3⟩ := TS3 (y := y) (d := d) N h0 hp ht hc g1 hsg (c_wk h g4 g5)
    exact ⟨L', S', v'', e1, e2, e3⟩
/-- one who comes: it sits, or it stands -/
theorem TS1 (N : Nat) (hN : 66 < N) {n m c t p : Nat} {aw : Prop} {late bn : Int32} {P Y L0 S0 v0 L S v : VV} {b : Nat → Int32} (h0 : PR n m P L0 v0) (hW : wayR n P Y v0 bn) (hp : p < n) (ht : t < m) (hc : c < 23) (hsg : ∀ u, u < 3 → ∃ s : Nat, s ≤ 3 ∧ S0.2.1 3 u = nI s) (h : core n c t aw late P Y L0 S0 v0 L S v b) (hb : b p = 0) :
    ∃ z L' S' v', f_X0_sitDown N P L S Y (nI p) (nI t) = some (z, L', S') ∧ f_X12_takesSeat N v (nI c) (nI p) (nI t) late = some v' ∧ ((z = 1 ∧ core n c t aw late P Y L0 S0 v0 L' S' v' b) ∨ (z = 0 ∧ core n c t aw late P Y L0 S0 v0 L' S' v' (upd b p 1))) := by
  have hn := PR_n h0
  have hm := PR_m h0
  have hP := PR_FR h0 h.2.1 h.1
  have hWv := way_FR hW h.1
  obtain ⟨e1, e4, e5, e6, e7⟩ := h.2.2.2.2.2
  obtain ⟨e1, e2, e3⟩ := e1
  unfold f_X0_sitDown f_X12_takesSeat
  rw [tra0 hP hp, pu_bnd, hasP1 hP hp, pu_bnd, if_neg (by decide), hasS1 hP ht, pu_bnd, if_neg (by decide)]
  simp only [pu_3, pu_8, pu_gin (show t < 3 by omega) (show 3 < 2 ^ 31 by omega), nI_clamp (show t < 2 ^ 31 by omega), pu_gin (show 3 * c + t < 69 by omega) (show 69 < 2 ^ 31 by omega), nI_clamp (show 3 * c + t < 2 ^ 31 by omega), pu_gin (show p < 8 by omega) (show 8 < 2 ^ 31 by omega), pu_gin (show p < 16 by omega) (show 16 < 2 ^ 31 by omega), nI_clamp (show p < 2 ^ 31 by omega), pu_gin (show 8 * c + p < 184 by omega) (show 184 < 2 ^ 31 by omega), nI_clamp (show 8 * c + p < 2 ^ 31 by omega), pu_gin (show c < 23 by omega) (show 23 < 2 ^ 31 by omega), nI_clamp (show c < 2 ^ 31 by omega), e2]
  by_cases hfit : v.2.1 5 p ≤ (P.2.1 6 0 + Y.1 5) - S.2.1 15 t
  · rw [if_pos hfit, if_pos (show v.2.1 5 p ≤ v.1 56 by rw [e4]; exact hfit)]
    have c1 := c_sat h (by omega) (x := S.2.1 15 t + v.2.1 5 p) (x' := v.2.1 45 (3 * c + t) + v.2.1 5 p) (l := v.1 56 - v.2.1 5 p) (by rw [e3]) (by rw [e4]; grind)
    have c2 := c_meals c1 (p := p) (by omega) (x := S.2.1 5 p + 1) (x' := v.2.1 38 (8 * c + p) + 1) (by rw [h.2.2.1.2.2.1 p (by omega)])
    have c3 := c_paid c2 (x := S.1 11 + v.2.1 5 p * S.2.1 4 t) (x' := v.2.1 35 c + v.2.1 43 (3 * c + t) * v.2.1 5 p) (by rw [h.2.2.1.1.2.2.2.2, h.2.2.1.2.2.2.2.2.2.2 t (by omega), Int32.mul_comm])
    have hP3 := PR_FR h0 c3.2.1 c3.1
    obtain ⟨y, L', v4, g1, g2, g3, g4, g5⟩ := likeR N hN hP3 hp ht hc (way_FR hW c3.1).1 late (c3.2.2.1.2.2.2.2.2.2.2 t (by omega)) c3.2.2.1.1.1
    replace g2 : f_X0_manner N P L _ Y 0 (nI p) (nI t) late = some (nI y, L') := g2
    rw [g2, g3, pu_bnd, pu_bnd, tra4 hP hp, pu_bnd]
    have c4 := c_wk c3 g4 g5
    have hv7 : v4.2.1 7 p = v.2.1 7 p := by rw [g5.1]; rfl
    have hv5 : v4.2.1 5 p = v.2.1 5 p := by rw [g5.1]; rfl
    have hd : v4.2.1 44 (3 * c + t) + v4.2.1 3 3 = S.2.1 13 t + P.2.1 6 1 := by
      have : v4.2.1 44 (3 * c + t) = v.2.1 44 (3 * c + t) := by rw [g5.1]; rfl
      rw [this, e1, show v4.2.1 3 3 = v.2.1 3 3 from by rw [g5.1]; rfl, (PR_sE hP).2.1]
    have c5 := c_glad c4 (x := S.1 9 + v.2.1 5 p * nI y) (x' := v.2.1 33 c + nI y * v4.2.1 5 p) (by rw [h.2.2.1.1.2.2.1, hv5, Int32.mul_comm])
    simp only [hd, hv7]
    by_cases hcr : S.2.1 13 t + P.2.1 6 1 ≤ v.2.1 7 p
    · rw [if_pos hcr, if_pos hcr]
      obtain ⟨L2, S2, v2, k1, k2, k3⟩ := TS2 (d := S.2.1 13 t + P.2.1 6 1) N hN h0 hW hp ht hc hsg c5
      exact ⟨1, L2, S2, v2, k1, k2, Or.inl ⟨rfl, k3⟩⟩
    · rw [if_neg hcr, if_neg hcr]
      have c6 := c_cross c5 hn hp (x := S.2.1 6 p + 1) (x' := v4.2.1 39 (8 * c + p) + 1) (by
        have : v4.2.1 39 (8 * c + p) = v.2.1 39 (8 * c + p) := by rw [g5.1]; rfl
        rw [this, h.2.2.1.2.2.2.1 p (by omega)])
      obtain ⟨L2, S2, v2, k1, k2, k3⟩ := TS2 (d := S.2.1 13 t + P.2.1 6 1) N hN h0 hW hp ht hc hsg c6
      exact ⟨1, L2, S2, v2, k1, k2, Or.inl ⟨rfl, k3⟩⟩
  · rw [if_neg hfit, if_neg (show ¬ v.2.1 5 p ≤ v.1 56 by rw [e4]; exact hfit)]
    exact ⟨0, L, S, _, rfl, rfl, Or.inr ⟨rfl, c_stand h hn hp (by omega) hb⟩⟩
