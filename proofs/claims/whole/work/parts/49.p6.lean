theorem sm_0 {f : Nat → Int32} : ∀ n, (∀ i, i < n → f i = 0) → sm_ f n = 0 := by
  intro n
  induction n with
  | zero => intro _; rfl
  | succ n ih => intro h; unfold sm_; rw [ih (fun i hi => h i (by omega)), h n (by omega)]; rfl
/-- the sum of those who stand -/
theorem standS (N : Nat) (hN : 66 < N) {n : Nat} {C P : VV} (hn : n ≤ 8) (h0 : P.1 0 = nI n) : f_X0_standing N C P = some (sm_ (fun q => if C.2.1 0 q = 0 then 0 else P.2.1 (100 + q) 0) n) := by
  unfold f_X0_standing
  refine itrF n (fun i => (sm_ (fun q => if C.2.1 0 q = 0 then 0 else P.2.1 (100 + q) 0) i, nI i)) _ ?_ ?_ N 0 (by omega) (by omega)
  · intro i hi
    show f_X0_standing_s4 N C P _ (nI i) = _
    unfold f_X0_standing_s4 f_X0_standing_b30
    rw [h0, if_neg (nI_ge hi (by omega)), pu_gin (show i < 8 by omega) (show 8 < 2 ^ 31 by omega), nI_clamp (show i < 2 ^ 31 by omega), nI_1]
    have ht : f_X6_trait P (nI i) 0 = some (P.2.1 (100 + i) 0) := tra (w := 0) hn h0 hi (by omega)
    by_cases h : C.2.1 0 i = 0
    · rw [if_pos h]; simp only [sm_, if_pos h, Int32.add_zero]
    · rw [if_neg h, ht, pu_bnd]; simp only [sm_, if_neg h]
  · show f_X0_standing_s4 N C P _ (nI n) = _
    unfold f_X0_standing_s4
    rw [h0, if_pos (nI_le (Nat.le_refl n) (by omega)), pu_inrO]
/-- a number drawn: the same on both sides -/
theorem drawE (x : Int32) : ((x &&& 2147483647) >>> ((16 : Int32) &&& 31)) = (x &&& 2147483647) / 65536 := by
  obtain ⟨k, hk, e⟩ := pk_andE x (m := 2147483647) 31 (by decide)
  rw [e, pk_shrN (by omega) _ 16 (by decide), show (65536 : Int32) = nI 65536 from rfl, pk_div (by omega) (by omega) (by omega)]
/-- does it come? -/
theorem comeR (N : Nat) (hN : 66 < N) {n m c t p : Nat} {aw : Prop} {late bn : Int32} {P Y L0 S0 v0 L S v : VV} {b : Nat → Int32} (h0 : PR n m P L0 v0) (hW : wayR n P Y v0 bn) (hp : p < n) (ht : t < m) (hc : c < 23) (h : core n c t aw late P Y L0 S0 v0 L S v b) (ha : ¬ Y.1 3 = nI p) :
    ∃ z L' S' v' w u, f_X0_comes N P L S Y (nI p) (nI t) = some (z, L', S') ∧ f_X12_missOf N v (nI c) (nI p) (nI t) late = some (w, u) ∧ f_X12_comes u (nI c) w bn = some (z, v') ∧ (z = 0 ∨ z = 1) ∧ core n c t aw late P Y L0 S0 v0 L' S' v' b := by
  have hn := PR_n h0
  have hm := PR_m h0
  have hP := PR_FR h0 h.2.1 h.1
  have hWv := way_FR hW h.1
  have e2 : S.2.1 14 t = late := h.2.2.2.2.2.1.2.1
  unfold f_X0_comes
  rw [if_neg ha]
  by_cases h50 : v.1 50 = 1
  · rw [if_neg (hWv.2.1.2.1 h50)]
    have hz : f_X12_missOf N v (nI c) (nI p) (nI t) late = some (0, v) := by unfold f_X12_missOf; rw [if_pos h50]
    refine ⟨1, L, S, v, 0, v, rfl, hz, ?_, Or.inr rfl, h⟩
    unfold f_X12_comes
    by_cases hb : bn = 0
    · rw [if_pos hb, if_neg (by decide)]
    · rw [if_neg hb, if_pos rfl]
  · rw [if_pos (hWv.2.1.2.2.1 h50), hasS1 hP ht, pu_bnd, if_neg (by decide), pu_gin (show t < 3 by omega) (show 3 < 2 ^ 31 by omega), nI_clamp (show t < 2 ^ 31 by omega), e2]
    obtain ⟨y, L', v', g1, g2, g3, g4, g5⟩ := missR N hN hP hp ht hc hWv.1 late (h.2.2.1.2.2.2.2.2.2.2 t (by omega)) h.2.2.1.1.1 h50
    rw [show f_X0_manner N P L S Y 2 (nI p) (nI t) late = some (nI y, L') from g2, pu_bnd, hWv.2.1.1]
    have c1 := c_wk h g4 g5
    unfold f_X12_comes f_X0_comes_b84
    by_cases hb : bn = 0
    · rw [if_pos hb]
      by_cases h5 : (50 : Int32) ≤ nI y
      · rw [if_pos h5]; exact ⟨0, L', S, v', nI y, v', rfl, g3, by rw [if_pos hb, if_pos h5], Or.inl rfl, c1⟩
      · rw [if_neg h5]; exact ⟨1, L', S, v', nI y, v', rfl, g3, by rw [if_pos hb, if_neg h5], Or.inr rfl, c1⟩
    · rw [if_neg hb]
      by_cases hy : nI y = 0
      · rw [if_pos hy]; exact ⟨1, L', S, v', nI y, v', rfl, g3, by rw [if_neg hb, if_pos hy], Or.inr rfl, c1⟩
      · rw [if_neg hy]
        unfold f_X8_draw
        rw [pu_bnd]
        have hx : S.1 1 = v'.2.1 36 c := c1.2.2.1.1.2.1
        have c2 := c_draw c1 (x := ((S.1 1 * 1103515245) + 12345) &&& 2147483647) (x' := ((v'.2.1 36 c * 1103515245) + 12345) &&& 2147483647) (by rw [hx])
        have hr : ∀ A B : Option (Int32 × VV), (gin (nI c) 23 (gin (nI c) 23 (gin (nI c) 23 (if (((upd (v'.2.1 36) (nI c).toNatClampNeg ((((v'.2.1 36 (nI c).toNatClampNeg) * 1103515245) + 12345) &&& 2147483647)) (nI c).toNatClampNeg) >>> ((16 : Int32) &&& 31)) - (((upd (v'.2.1 36) (nI c).toNatClampNeg ((((v'.2.1 36 (nI c).toNatClampNeg) * 1103515245) + 12345) &&& 2147483647)) (nI c).toNatClampNeg) >>> ((16 : Int32) &&& 31)) / 100 * 100 < nI y then A else B)))) = if (((v'.2.1 36 c * 1103515245) + 12345) &&& 2147483647) / 65536 - (((v'.2.1 36 c * 1103515245) + 12345) &&& 2147483647) / 65536 / 100 * 100 < nI y then A else B := fun A B => by
          simp only [pu_gin (show c < 23 by omega) (show 23 < 2 ^ 31 by omega), nI_clamp (show c < 2 ^ 31 by omega), pk_us, drawE]
        rw [hx]
        by_cases hl : (((v'.2.1 36 c * 1103515245) + 12345) &&& 2147483647) / 65536 - (((v'.2.1 36 c * 1103515245) + 12345) &&& 2147483647) / 65536 / 100 * 100 < nI y
        · rw [if_pos hl]
          refine ⟨0, L', _, (sr v' 36 c (((v'.2.1 36 c * 1103515245) + 12345) &&& 2147483647)), nI y, v', rfl, g3, ?_, Or.inl rfl, ?_⟩
          · rw [if_neg hb, if_neg hy, hr, if_pos hl, nI_clamp (show c < 2 ^ 31 by omega)]
          · rw [hx] at c2; exact c2
        · rw [if_neg hl]
          refine ⟨1, L', _, (sr v' 36 c (((v'.2.1 36 c * 1103515245) + 12345) &&& 2147483647)), nI y, v', rfl, g3, ?_, Or.inr rfl, ?_⟩
          · rw [if_neg hb, if_neg hy, hr, if_neg hl, nI_clamp (show c < 2 ^ 31 by omega)]
          · rw [hx] at c2; exact c2
/-- those who stand had an earlier ticket -/
def tkR (n t p : Nat) (S0 : VV) (b : Nat → Int32) : Prop := ∀ q, q < n → ¬ b q = 0 → ∃ u, S0.2.1 2 q = nI u ∧ (u < t ∨ (u = t ∧ q < p))
/-- the second loop of a sitting: those with a ticket -/
def s2R (n c t : Nat) (aw : Prop) (late : Int32) (P Y L0 S0 v0 : VV) (m : Nat) (s : Int32 × VV × VV × VV) (w : Int32 × VV) : Prop := ∃ p b, m = n - p ∧ p ≤ n ∧ s.1 = nI p ∧ w.1 = nI p ∧ core n c t aw late P Y L0 S0 v0 s.2.2.1 s.2.2.2 w.2 b ∧ (∀ q, q < n → s.2.1.2.1 0 q = b q) ∧ tkR n t p S0 b
def s2Q (n c t : Nat) (aw : Prop) (late : Int32) (P Y L0 S0 v0 : VV) (r : Int32 × VV × VV × VV) (v : VV) : Prop := ∃ b S X, core n c t aw late P Y L0 S0 v0 r.2.2.1 S v b ∧ (∀ q, q < n → r.2.1.2.1 0 q = b q) ∧ tkR n (t + 1) 0 S0 b ∧ r.2.2.2 = sr S 16 t (v.2.1 46 (3 * c + t)) ∧ r.1 = v.1 57 + X ∧ ((v.2.1 45 (3 * c + t) ≤ 0 ∧ X = 0) ∨ (¬ v.2.1 45 (3 * c + t) ≤ 0 ∧ f_X0_laying P Y = some X))
theorem s2step (N : Nat) (hN : 66 < N) {n m c t : Nat} {aw : Prop} {late bn : Int32} {P Y L0 S0 v0 : VV} (h0 : PR n m P L0 v0) (hW : wayR n P Y v0 bn) (ht : t < m) (hc : c < 23) (hsg : ∀ u, u < 3 → ∃ s : Nat, s ≤ 3 ∧ S0.2.1 3 u = nI s) (haw : v0.1 50 = 2 → ¬ aw) (k : Nat) (s : Int32 × VV × VV × VV) (w : Int32 × VV) (hR : s2R n c t aw late P Y L0 S0 v0 k s w) :
    (∃ k' s' w', k' < k ∧ f_X0_serve_s138 N s.2.1 P s.2.2.1 s.2.2.2 Y (nI t) s.1 = some (.inl s') ∧ f_X12_sits_s103 N w.2 (nI c) (nI t) bn late w.1 = some (.inl w') ∧ s2R n c t aw late P Y L0 S0 v0 k' s' w') ∨ (∃ r r', f_X0_serve_s138 N s.2.1 P s.2.2.1 s.2.2.2 Y (nI t) s.1 = some (.inr r) ∧ f_X12_sits_s103 N w.2 (nI c) (nI t) bn late w.1 = some (.inr r') ∧ s2Q n c t aw late P Y L0 S0 v0 r r') := by
  obtain ⟨s1, C, L, S⟩ := s
  obtain ⟨w1, v⟩ := w
  obtain ⟨p, b, hk, hpn, hs1, hw1, hco, hC, htk⟩ := hR
  simp only at hs1 hw1 hco hC
  subst hs1 hw1
  simp only
  have hn := PR_n h0
  have hm := PR_m h0
  have hP := PR_FR h0 hco.2.1 hco.1
  have hWv := way_FR hW hco.1
  have hv50 : v.1 50 = v0.1 50 := hco.1.1 50 (by omega) (by omega) (by omega) (by omega)
  have hS2 : S.2.1 2 = S0.2.1 2 := hco.2.2.2.1.1
  unfold f_X0_serve_s138 f_X12_sits_s103
  rw [PR_P0 hP, PR_v0 hP]
  rcases Nat.lt_or_ge p n with hlt | hge
  · left
    rw [if_neg (nI_ge hlt (by omega)), if_neg (nI_ge hlt (by omega)), pu_8, pu_gin (show p < 8 by omega) (show 8 < 2 ^ 31 by omega), nI_clamp (show p < 2 ^ 31 by omega), pu_gin (show 8 * c + p < 184 by omega) (show 184 < 2 ^ 31 by omega), nI_clamp (show 8 * c + p < 2 ^ 31 by omega), ← hco.2.2.1.2.1 p (by omega)]
    have htk' : tkR n t (p + 1) S0 b := fun q hq hb => by
      obtain ⟨u, e, hu⟩ := htk q hq hb
      exact ⟨u, e, by omega⟩
    have hstep : ∀ (C' L' S' v' : VV) (b' : Nat → Int32), core n c t aw late P Y L0 S0 v0 L' S' v' b' → (∀ q, q < n → C'.2.1 0 q = b' q) → tkR n t (p + 1) S0 b' → s2R n c t aw late P Y L0 S0 v0 (n - (p + 1)) (nI p + 1, C', L', S') (nI p + 1, v') := fun C' L' S' v' b' h1 h2 h3 => ⟨p + 1, b', rfl, hlt, nI_1 p, nI_1 p, h1, h2, h3⟩
    by_cases htt : S.2.1 2 p = nI t
    · rw [if_pos htt, if_pos htt]
      have hbp : b p = 0 := Decidable.byContradiction fun hb => by
        obtain ⟨u, e, hu⟩ := htk p hlt hb
        rw [← hS2, htt] at e
        rcases hu with hu | ⟨_, hu⟩
        · have := (nI_eq (a := t) (b := u) (by omega) (by omega)).mp e
          omega
        · omega
      by_cases habs : v.1 50 = 2 ∧ nI p = v.1 51
      · rw [if_pos habs.1, if_pos habs.2]
        have hY3 : Y.1 3 = nI p := by rw [hWv.2.1.2.2.2.2.2.1 habs.1, habs.2]
        unfold f_X0_comes
        rw [if_pos hY3, pu_bnd, if_pos rfl, pu_gin (show p < 8 by omega) (show 8 < 2 ^ 31 by omega), pu_gin (show p < 8 by omega) (show 8 < 2 ^ 31 by omega)]
        exact ⟨n - (p + 1), _, _, by omega, rfl, rfl, hstep _ _ _ _ b (c_awayC hco (haw (by rw [← hv50]; exact habs.1))) hC htk'⟩
      · have ha : ¬ Y.1 3 = nI p := by
          by_cases h2 : v.1 50 = 2
          · rw [hWv.2.1.2.2.2.2.2.1 h2]; exact fun e => habs ⟨h2, e.symm⟩
          · rw [hWv.2.1.2.2.2.2.2.2.1 h2]
            intro e
            have : (-1 : Int32) < 0 := by decide
            rw [e] at this
            exact nI_pos (by omega) this
        have href : (if v.1 50 = 2 then if nI p = v.1 51 then f_X12_sits_b198 N v (nI c) (nI t) bn late (nI p) else f_X12_sits_b150 N v (nI c) (nI t) bn late (nI p) else f_X12_sits_b150 N v (nI c) (nI t) bn late (nI p)) = f_X12_sits_b150 N v (nI c) (nI t) bn late (nI p) := by
          by_cases h2 : v.1 50 = 2
          · rw [if_pos h2, if_neg (fun e => habs ⟨h2, e⟩)]
          · rw [if_neg h2]
        rw [href]
        unfold f_X12_sits_b150
        obtain ⟨z, L', S', v', x, u, g1, g2, g3, g4, c1⟩ := comeR N hN h0 hW hlt ht hc hco ha
        rw [g1, g2, pu_bnd, pu_bnd, g3, pu_bnd]
        rcases g4 with rfl | rfl
        · rw [if_pos rfl, if_pos rfl, pu_gin (show p < 8 by omega) (show 8 < 2 ^ 31 by omega), pu_gin (show p < 8 by omega) (show 8 < 2 ^ 31 by omega), pu_8, pu_gin (show 8 * c + p < 184 by omega) (show 184 < 2 ^ 31 by omega), pu_gin (show 8 * c + p < 184 by omega) (show 184 < 2 ^ 31 by omega), nI_clamp (show 8 * c + p < 2 ^ 31 by omega)]
          refine ⟨n - (p + 1), _, _, by omega, rfl, rfl, hstep _ _ _ _ b (c_away c1 (by omega) fun w => ?_) hC htk'⟩
          rw [c1.2.2.1.2.2.2.2.1 w p (by omega)]
        · rw [if_neg (show ¬ (1 : Int32) = 0 from by decide), if_neg (show ¬ (1 : Int32) = 0 from by decide)]
          obtain ⟨z, L2, S2, v2, k1, k2, k3⟩ := TS1 N hN h0 hW hlt ht hc hsg c1 hbp
          rw [k1, k2, pu_bnd, pu_bnd]
          unfold f_X0_serve_b196 f_X0_serve_b211 f_X12_sits_b198 gbz
          rcases k3 with ⟨rfl, c2⟩ | ⟨rfl, c2⟩
          · rw [if_neg (show ¬ (1 : Int32) = 0 from by decide), if_pos (Or.inl rfl), pu_gin (show p < 8 by omega) (show 8 < 2 ^ 31 by omega), nI_clamp (show p < 2 ^ 31 by omega)]
            refine ⟨n - (p + 1), _, _, by omega, rfl, rfl, hstep _ _ _ _ b c2 (fun q hq => ?_) htk'⟩
            show upd (C.2.1 0) p 0 q = b q
            by_cases e : q = p
            · subst e; rw [pk_us, hbp]
            · rw [pk_un e]; exact hC q hq
          · rw [if_pos rfl, if_pos (Or.inr rfl), pu_gin (show p < 8 by omega) (show 8 < 2 ^ 31 by omega), nI_clamp (show p < 2 ^ 31 by omega)]
            refine ⟨n - (p + 1), _, _, by omega, rfl, rfl, hstep _ _ _ _ (upd b p 1) c2 (fun q hq => ?_) (fun q hq hb => ?_)⟩
            · show upd (C.2.1 0) p 1 q = upd b p 1 q
              by_cases e : q = p
              · subst e; rw [pk_us, pk_us]
              · rw [pk_un e, pk_un e]; exact hC q hq
            · by_cases e : q = p
              · subst e; exact ⟨t, by rw [← hS2]; exact htt, by omega⟩
              · rw [pk_un e] at hb; exact htk' q hq hb
    · rw [if_neg htt, if_neg htt]
      exact ⟨n - (p + 1), _, _, by omega, rfl, rfl, hstep _ _ _ _ b hco hC htk'⟩
  · right
    have : p = n := by omega
    subst this
    rw [if_pos (nI_le (Nat.le_refl p) (by omega)), if_pos (nI_le (Nat.le_refl p) (by omega)), standS N hN hn (PR_P0 hP), pu_bnd, pu_gin (show t < 3 by omega) (show 3 < 2 ^ 31 by omega), pu_gin (show t < 3 by omega) (show 3 < 2 ^ 31 by omega), pu_gin (show t < 3 by omega) (show 3 < 2 ^ 31 by omega), nI_clamp (show t < 2 ^ 31 by omega), pu_inrO]
    have hsum : sm_ (fun q => if C.2.1 0 q = 0 then 0 else P.2.1 (100 + q) 0) p = v.2.1 46 (3 * c + t) := by
      rw [hco.2.2.2.2.2.2.2.2.1]
      exact sm_congr p fun i hi => by simp only [hC i hi, (PR_tR hP hi).2.1]
    have hs15 : S.2.1 15 t = v.2.1 45 (3 * c + t) := hco.2.2.2.2.2.1.2.2
    have hs17 : v.1 57 = S.2.1 17 t := hco.2.2.2.2.2.2.2.1
    have htk' : tkR p (t + 1) 0 S0 b := fun q hq hb => by
      obtain ⟨u, e, hu⟩ := htk q hq hb
      exact ⟨u, e, by omega⟩
    rw [hsum, hs15]
    unfold f_X0_serve_b255
    by_cases h15 : v.2.1 45 (3 * c + t) ≤ 0
    · rw [if_pos h15, pu_inrO]
      exact ⟨_, _, rfl, rfl, b, S, 0, hco, hC, htk', rfl, by rw [hs17], Or.inl ⟨h15, rfl⟩⟩
    · rw [if_neg h15]
      obtain ⟨hh, _, _, hl⟩ := hWv.2.2.1
      rw [hl, pu_bnd, pu_inrO]
      exact ⟨_, _, rfl, rfl, b, S, _, hco, hC, htk', rfl, by rw [hs17], Or.inr ⟨h15, hl⟩⟩
