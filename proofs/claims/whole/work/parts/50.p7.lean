theorem i_lt_le {a b c : Int32} (h : a < b) (h' : b ≤ c) : a < c := by
  rw [Int32.lt_iff_toInt_lt] at *
  rw [Int32.le_iff_toInt_le] at h'
  omega
theorem i_le_lt {a b c : Int32} (h : a ≤ b) (h' : b < c) : a < c := by
  rw [Int32.lt_iff_toInt_lt] at *
  rw [Int32.le_iff_toInt_le] at h
  omega
/-- the first loop of a sitting: those who stand from the one ahead -/
def s1R (n c t : Nat) (aw : Prop) (late : Int32) (P Y L0 S0 v0 : VV) (b0 : Nat → Int32) (m : Nat) (s : Int32 × VV × VV × VV) (w : Int32 × VV) : Prop := ∃ p b, m = n - p ∧ p ≤ n ∧ s.1 = nI p ∧ w.1 = nI p ∧ core n c t aw late P Y L0 S0 v0 s.2.2.1 s.2.2.2 w.2 b ∧ (∀ q, q < n → s.2.1.2.1 0 q = if q < p then b q else b0 q) ∧ (∀ q, q < n → ¬ b q = 0 → q < p ∧ ¬ b0 q = 0)
theorem s1step (N : Nat) (hN : 66 < N) {n m c t : Nat} {aw : Prop} {late bn before : Int32} {P Y L0 S0 v0 : VV} {b0 : Nat → Int32} (h0 : PR n m P L0 v0) (hW : wayR n P Y v0 bn) (ht : t < m) (hc : c < 23) (hsg : ∀ u, u < 3 → ∃ s : Nat, s ≤ 3 ∧ S0.2.1 3 u = nI s) (haw : v0.1 50 = 2 → ¬ aw) (hb0 : ∀ q, q < 8 → b0 q = if bt before q then 1 else 0) (hb1 : tkR n t 0 S0 b0) (k : Nat) (s : Int32 × VV × VV × VV) (w : Int32 × VV) (hR : s1R n c t aw late P Y L0 S0 v0 b0 k s w) :
    (∃ k' s' w', k' < k ∧ f_X0_serve_s85 N s.2.1 P s.2.2.1 s.2.2.2 Y (nI t) s.1 = some (.inl s') ∧ f_X12_sits_s62 N w.2 (nI c) (nI t) bn before late w.1 = some (.inl w') ∧ s1R n c t aw late P Y L0 S0 v0 b0 k' s' w') ∨ (∃ r r', f_X0_serve_s85 N s.2.1 P s.2.2.1 s.2.2.2 Y (nI t) s.1 = some (.inr r) ∧ f_X12_sits_s62 N w.2 (nI c) (nI t) bn before late w.1 = some (.inr r') ∧ s2Q n c t aw late P Y L0 S0 v0 r r') := by
  obtain ⟨s1, C, L, S⟩ := s
  obtain ⟨w1, v⟩ := w
  obtain ⟨p, b, hk, hpn, hs1, hw1, hco, hC, htk⟩ := hR
  simp only at hs1 hw1 hco hC
  subst hs1 hw1
  simp only
  have hn := PR_n h0
  have hm := PR_m h0
  have hP := PR_FR h0 hco.2.1 hco.1
  unfold f_X0_serve_s85 f_X12_sits_s62
  rw [PR_P0 hP, PR_v0 hP]
  rcases Nat.lt_or_ge p n with hlt | hge
  · left
    have hbp : b p = 0 := Decidable.byContradiction fun hb => by have := (htk p hlt hb).1; omega
    have hCp : C.2.1 0 p = if bt before p then 1 else 0 := by rw [hC p hlt, if_neg (by omega), hb0 p (by omega)]
    rw [if_neg (nI_ge hlt (by omega)), if_neg (nI_ge hlt (by omega)), pu_gin (show p < 8 by omega) (show 8 < 2 ^ 31 by omega), nI_clamp (show p < 2 ^ 31 by omega), pu_bit before (show p < 31 by omega), hCp]
    have hstep : ∀ (C' L' S' v' : VV) (b' : Nat → Int32), core n c t aw late P Y L0 S0 v0 L' S' v' b' → (∀ q, q < n → C'.2.1 0 q = if q < p + 1 then b' q else b0 q) → (∀ q, q < n → ¬ b' q = 0 → q < p + 1 ∧ ¬ b0 q = 0) → s1R n c t aw late P Y L0 S0 v0 b0 (n - (p + 1)) (nI p + 1, C', L', S') (nI p + 1, v') := fun C' L' S' v' b' h1 h2 h3 => ⟨p + 1, b', rfl, hlt, nI_1 p, nI_1 p, h1, h2, h3⟩
    by_cases hbt : bt before p = true
    · have hb0p : ¬ b0 p = 0 := by rw [hb0 p (by omega), if_pos hbt]; decide
      rw [if_pos hbt, if_neg (show ¬ (1 : Int32) = 0 from by decide), if_pos (show (1 : Int32) = 1 from rfl)]
      obtain ⟨z, L2, S2, v2, k1, k2, k3⟩ := TS1 N hN h0 hW hlt ht hc hsg hco hbp
      rw [k1, k2, pu_bnd, pu_bnd]
      unfold f_X0_serve_b128 f_X0_serve_b129 f_X12_sits_b94 gbz
      rcases k3 with ⟨rfl, c2⟩ | ⟨rfl, c2⟩
      · rw [if_neg (show ¬ (1 : Int32) = 0 from by decide), if_pos (Or.inl rfl), pu_gin (show p < 8 by omega) (show 8 < 2 ^ 31 by omega), nI_clamp (show p < 2 ^ 31 by omega)]
        refine ⟨n - (p + 1), _, _, by omega, rfl, rfl, hstep _ _ _ _ b c2 (fun q hq => ?_) (fun q hq hb => ?_)⟩
        · show upd (C.2.1 0) p 0 q = _
          by_cases e : q = p
          · subst e; rw [pk_us, if_pos (by omega), hbp]
          · rw [pk_un e, hC q hq]
            by_cases e2 : q < p
            · rw [if_pos e2, if_pos (by omega)]
            · rw [if_neg e2, if_neg (by omega)]
        · have := htk q hq hb; exact ⟨by omega, this.2⟩
      · rw [if_pos rfl, if_pos (Or.inr rfl), pu_gin (show p < 8 by omega) (show 8 < 2 ^ 31 by omega), nI_clamp (show p < 2 ^ 31 by omega)]
        refine ⟨n - (p + 1), _, _, by omega, rfl, rfl, hstep _ _ _ _ (upd b p 1) c2 (fun q hq => ?_) (fun q hq hb => ?_)⟩
        · show upd (C.2.1 0) p 1 q = _
          by_cases e : q = p
          · subst e; rw [pk_us, if_pos (by omega), pk_us]
          · rw [pk_un e, pk_un e, hC q hq]
            by_cases e2 : q < p
            · rw [if_pos e2, if_pos (by omega)]
            · rw [if_neg e2, if_neg (by omega)]
        · by_cases e : q = p
          · subst e; exact ⟨by omega, hb0p⟩
          · rw [pk_un e] at hb; have := htk q hq hb; exact ⟨by omega, this.2⟩
    · rw [if_neg hbt, if_pos (show (0 : Int32) = 0 from rfl), if_neg (show ¬ (0 : Int32) = 1 from by decide)]
      unfold f_X0_serve_b129 f_X12_sits_b94
      refine ⟨n - (p + 1), _, _, by omega, rfl, rfl, hstep _ _ _ _ b hco (fun q hq => ?_) (fun q hq hb => ?_)⟩
      · rw [hC q hq]
        by_cases e : q = p
        · subst e; rw [if_neg (by omega), if_pos (by omega), hbp, hb0 q (by omega), if_neg hbt]
        · by_cases e2 : q < p
          · rw [if_pos e2, if_pos (by omega)]
          · rw [if_neg e2, if_neg (by omega)]
      · have := htk q hq hb; exact ⟨by omega, this.2⟩
  · right
    have : p = n := by omega
    subst this
    rw [if_pos (nI_le (Nat.le_refl p) (by omega)), if_pos (nI_le (Nat.le_refl p) (by omega))]
    obtain ⟨r, r', h1, h2, h3⟩ := itr2 (s2R p c t aw late P Y L0 S0 v0) (s2Q p c t aw late P Y L0 S0 v0) (s2step N hN h0 hW ht hc hsg haw) N p (0, C, L, S) (0, v) (by omega) ⟨0, b, rfl, by omega, rfl, rfl, hco, fun q hq => by rw [hC q hq, if_pos hq], fun q hq hb => by
      obtain ⟨u, e, hu⟩ := hb1 q hq (htk q hq hb).2
      exact ⟨u, e, by omega⟩⟩
    exact ⟨r, r', by rw [h1]; rfl, by rw [h2]; rfl, h3⟩
/-- between two sittings -/
def dcore (n c t : Nat) (aw : Prop) (L0 S0 v0 L S v : VV) : Prop := FR c v0 v ∧ LF L0 L ∧ carR aw c S v ∧ stG n S0 S ∧ dayR c t S v
theorem sitStart {n m c t : Nat} {aw : Prop} {P Y L0 S0 v0 L S v : VV} (h0 : PR n m P L0 v0) (ht : t < m) (h : dcore n c t aw L0 S0 v0 L S v) (X : Int32) (hX : v.2.1 54 t = 0 → ¬ X < 0) (hX2 : t = 0 → X = jmax 0 (v.2.1 10 t + v.2.1 54 t)) :
    core n c t aw (X - v.2.1 10 t - v.2.1 54 t) P Y L0 S0 v0 L (sr (sr (sr (sr S 13 t X) 14 t (X - v.2.1 10 t - v.2.1 54 t)) 15 t 0) 17 t X) (si (sr (sr (si (si (sr v 44 (3 * c + t) X) 57 X) 56 (P.2.1 6 0 + Y.1 5)) 45 (3 * c + t) 0) 46 (3 * c + t) 0) 55 0) (fun _ => 0) := by
  have hm := PR_m h0
  obtain ⟨h1, h2, h3, h4, h5⟩ := h
  refine ⟨h1.trans ((FR_3 44 t X (by omega) (by omega) (by omega)).trans ((FR_si 57 X (by omega)).trans ((FR_si 56 _ (by omega)).trans ((FR_3 45 t 0 (by omega) (by omega) (by omega)).trans ((FR_3 46 t 0 (by omega) (by omega) (by omega)).trans (FR_si 55 0 (by omega))))))), h2, h3, h4, ?_, ⟨⟨?_, ?_, ?_⟩, ?_, ?_, ?_, ?_, ?_⟩⟩
  · intro u hu
    obtain ⟨g1, g2, g3, g4, g5⟩ := h5 u hu
    refine ⟨?_, ?_, ?_, ?_, ?_⟩
    · show upd (S.2.1 13) t X u = upd (v.2.1 44) (3 * c + t) X (3 * c + u) ∧ (v.2.1 54 u = 0 → ¬ upd (v.2.1 44) (3 * c + t) X (3 * c + u) < 0) ∧ (u = 0 → upd (v.2.1 44) (3 * c + t) X (3 * c + u) = jmax 0 (v.2.1 10 u + v.2.1 54 u))
      rw [pk_un (by omega), pk_un (by omega)]; exact g1
    · show upd (S.2.1 14) t _ u = upd (v.2.1 44) (3 * c + t) X (3 * c + u) - v.2.1 10 u - v.2.1 54 u
      rw [pk_un (by omega), pk_un (by omega)]; exact g2
    · show upd (S.2.1 15) t 0 u = upd (v.2.1 45) (3 * c + t) 0 (3 * c + u)
      rw [pk_un (by omega), pk_un (by omega)]; exact g3
    · show S.2.1 16 u = upd (v.2.1 46) (3 * c + t) 0 (3 * c + u)
      rw [pk_un (by omega)]; exact g4
    · show upd (S.2.1 17) t X u = v.2.1 47 (3 * c + u)
      rw [pk_un (by omega)]; exact g5
  · show upd (S.2.1 13) t X t = upd (v.2.1 44) (3 * c + t) X (3 * c + t)
    rw [pk_us, pk_us]
  · show upd (S.2.1 14) t _ t = _
    rw [pk_us]
  · show upd (S.2.1 15) t 0 t = upd (v.2.1 45) (3 * c + t) 0 (3 * c + t)
    rw [pk_us, pk_us]
  · show P.2.1 6 0 + Y.1 5 = (P.2.1 6 0 + Y.1 5) - upd (S.2.1 15) t 0 t
    rw [pk_us, Int32.sub_zero]
  · show X = upd (S.2.1 17) t X t
    rw [pk_us]
  · show upd (v.2.1 46) (3 * c + t) 0 (3 * c + t) = sm_ (fun q => if (0 : Int32) = 0 then 0 else v.2.1 5 q) n
    rw [pk_us]
    exact (sm_0 n (fun i _ => if_pos rfl)).symm
  · intro q _
    show (0 : Int32) = if bt 0 q then 1 else 0
    rw [b_0]; rfl
  · show X - v.2.1 10 t - v.2.1 54 t = upd (v.2.1 44) (3 * c + t) X (3 * c + t) - v.2.1 10 t - v.2.1 54 t ∧ (v.2.1 54 t = 0 → ¬ upd (v.2.1 44) (3 * c + t) X (3 * c + t) < 0) ∧ (t = 0 → upd (v.2.1 44) (3 * c + t) X (3 * c + t) = jmax 0 (v.2.1 10 t + v.2.1 54 t))
    rw [pk_us]; exact ⟨rfl, hX, hX2⟩
/-- one sitting on both sides -/
theorem sitting1 (N : Nat) (hN : 66 < N) {n m c t : Nat} {aw : Prop} {bn ready before : Int32} {P Y L0 S0 v0 C L S v : VV} {b0 : Nat → Int32} (h0 : PR n m P L0 v0) (hW : wayR n P Y v0 bn) (ht : t < m) (hc : c < 23) (hsg : ∀ u, u < 3 → ∃ s : Nat, s ≤ 3 ∧ S0.2.1 3 u = nI s) (haw : v0.1 50 = 2 → ¬ aw) (hb0 : ∀ q, q < 8 → b0 q = if bt before q then 1 else 0) (hb1 : tkR n t 0 S0 b0) (hC : ∀ q, q < n → C.2.1 0 q = b0 q) (hr0 : t = 0 → ready = 0) (h : dcore n c t aw L0 S0 v0 L S v) :
    ∃ rdy C' L' S' v' before' b', f_X0_serve N C P L S Y (nI t) ready = some (rdy, C', L', S') ∧ f_X12_passes_s8 N v (nI c) bn ready before (nI t) = some (.inl (rdy, before', nI t + 1, v')) ∧ dcore n c (t + 1) aw L0 S0 v0 L' S' v' ∧ (∀ q, q < n → C'.2.1 0 q = b' q) ∧ (∀ q, q < 8 → b' q = if bt before' q then 1 else 0) ∧ tkR n (t + 1) 0 S0 b' := by
  have hn := PR_n h0
  have hm := PR_m h0
  have hP := PR_FR h0 h.2.1 h.1
  have hWv := way_FR hW h.1
  obtain ⟨X, hX⟩ : ∃ X, X = jmax ready (v.2.1 10 t + v.2.1 54 t) := ⟨_, rfl⟩
  have hX0 : v.2.1 54 t = 0 → ¬ X < 0 := by
    intro h54
    obtain ⟨x, hx, hxe⟩ := (PR_sB hP ht).1
    rw [hX, h54, hxe, Int32.add_zero]
    unfold jmax
    by_cases hl : ready < nI x
    · rw [if_pos hl]; exact nI_pos (by omega)
    · rw [if_neg hl]
      intro hr
      exact hl (i_lt_le hr (nI_pos' (by omega)))
  have hs := sitStart (Y := Y) h0 ht h X hX0 (fun e => by rw [hX, hr0 e])
  have hseat : ∀ w : VV, w.1 50 = v.1 50 → w.2.1 3 = v.2.1 3 → f_X12_seatsOf w = some (P.2.1 6 0 + Y.1 5) := by
    intro w e1 e2
    unfold f_X12_seatsOf f_X12_seatsOf_b19
    rw [e1, e2, (PR_sE hP).1]
    by_cases h3 : v.1 50 = 3
    · rw [if_pos h3, hWv.2.1.2.2.2.2.2.2.2.1 h3]
    · rw [if_neg h3, hWv.2.1.2.2.2.2.2.2.2.2 h3]
  have hlate : X - (v.2.1 10 t + v.2.1 54 t) = X - v.2.1 10 t - v.2.1 54 t := (Int32.sub_sub _ _ _).symm
  obtain ⟨r, r', h1, h2, h3⟩ := itr2 (s1R n c t aw _ P Y L0 S0 v0 b0) (s2Q n c t aw _ P Y L0 S0 v0) (s1step N hN h0 hW ht hc hsg haw hb0 hb1) N n (0, C, L, _) (0, _) (by omega) ⟨0, fun _ => 0, rfl, by omega, rfl, rfl, hs, fun q hq => by rw [if_neg (by omega)]; exact hC q hq, fun q hq hb => absurd rfl hb⟩
  obtain ⟨rdy, C', L', S'⟩ := r
  obtain ⟨b, S2, X2, hco, hCb, htk, hS', hrd, hlay⟩ := h3
  simp only at hco hCb hS' hrd
  refine ⟨rdy, C', L', S', sr r' 47 (3 * c + t) (r'.1 57), r'.1 55, b, ?_, ?_, ?_, hCb, hco.2.2.2.2.2.2.2.2.2.1, htk⟩
  · unfold f_X0_serve
    rw [hasS1 hP ht, pu_bnd, if_neg (by decide)]
    simp only [pu_gin (show t < 3 by omega) (show 3 < 2 ^ 31 by omega), nI_clamp (show t < 2 ^ 31 by omega), pk_us]
    rw [(PR_sR hP ht).1, hWv.2.2.2 t (by omega), jmax_c, ← hX, hlate]
    exact h1
  · unfold f_X12_passes_s8 f_X12_sits
    rw [PR_v2 hP, if_neg (nI_ge ht (by omega))]
    simp only [pu_3, pu_gin (show t < 6 by omega) (show 6 < 2 ^ 31 by omega), pu_gin (show t < 3 by omega) (show 3 < 2 ^ 31 by omega), nI_clamp (show t < 2 ^ 31 by omega), pu_gin (show 3 * c + t < 69 by omega) (show 69 < 2 ^ 31 by omega), nI_clamp (show 3 * c + t < 2 ^ 31 by omega)]
    rw [← hX, hseat (si (sr v 44 (3 * c + t) X) 57 (upd (v.2.1 44) (3 * c + t) X (3 * c + t))) rfl rfl, pu_bnd]
    have h2' : itr (fun q : Int32 × VV => f_X12_sits_s62 N q.2 (nI c) (nI t) bn before ((upd (v.2.1 44) (3 * c + t) X (3 * c + t)) - v.2.1 10 t - v.2.1 54 t) q.1) N (0, si (sr (sr (si (si (sr v 44 (3 * c + t) X) 57 (upd (v.2.1 44) (3 * c + t) X (3 * c + t))) 56 (P.2.1 6 0 + Y.1 5)) 45 (3 * c + t) 0) 46 (3 * c + t) 0) 55 0) = some r' := by rw [pk_us]; exact h2
    have h2'' := h2'
    show bnd (itr (fun q : Int32 × VV => f_X12_sits_s62 N q.2 (nI c) (nI t) bn before ((upd (v.2.1 44) (3 * c + t) X (3 * c + t)) - v.2.1 10 t - v.2.1 54 t) q.1) N (0, si (sr (sr (si (si (sr v 44 (3 * c + t) X) 57 (upd (v.2.1 44) (3 * c + t) X (3 * c + t))) 56 (P.2.1 6 0 + Y.1 5)) 45 (3 * c + t) 0) 46 (3 * c + t) 0) 55 0)) _ = _
    rw [h2'', pu_bnd]
    unfold f_X12_passes_b127
    rcases hlay with ⟨h15, rfl⟩ | ⟨h15, hl⟩
    · rw [if_pos h15, hrd]
    · rw [if_neg h15]
      obtain ⟨hh, g1, g2, g3⟩ := (way_FR (c := c) hW (hco.1.trans (FR_3 47 t (r'.1 57) (by omega) (by omega) (by omega)))).2.2.1
      rw [g2, pu_bnd, pu_bnd, pu_gnz g1, hrd]
      rw [hl] at g3
      injection g3 with g3
      rw [g3]; rfl
  · obtain ⟨a1, a2, a3, a4, a5, ⟨⟨e1, e2, e3⟩, e4, e5, e6, e7, e8⟩⟩ := hco
    subst hS'
    refine ⟨a1.trans (FR_3 47 t _ (by omega) (by omega) (by omega)), a2, a3, a4, ?_⟩
    intro u hu
    by_cases e : u = t
    · subst e
      refine ⟨⟨e1, e8.2⟩, e2.trans e8.1, e3, ?_, ?_⟩
      · show upd (S2.2.1 16) u _ u = r'.2.1 46 (3 * c + u)
        rw [pk_us]
      · show S2.2.1 17 u = upd (r'.2.1 47) (3 * c + u) (r'.1 57) (3 * c + u)
        rw [pk_us, e5]
    · obtain ⟨g1, g2, g3, g4, g5⟩ := a5 u (by omega)
      refine ⟨g1, g2, g3, ?_, ?_⟩
      · show upd (S2.2.1 16) t _ u = r'.2.1 46 (3 * c + u)
        rw [pk_un e]; exact g4
      · show S2.2.1 17 u = upd (r'.2.1 47) (3 * c + t) (r'.1 57) (3 * c + u)
        rw [pk_un (by omega)]; exact g5
/-- who stands behind the last one is hungry -/
def hgR (n m c : Nat) (aw : Prop) (L0 S0 v0 : VV) (b : Nat → Int32) (k : Nat) (s : Int32 × VV × VV × VV) (w : Int32 × VV) : Prop := ∃ p, k = n - p ∧ p ≤ n ∧ s.1 = nI p ∧ w.1 = nI p ∧ dcore n c m aw L0 S0 v0 s.2.2.1 s.2.2.2 w.2 ∧ (∀ q, q < n → s.2.1.2.1 0 q = b q)
/-- the day's end -/
def stK (n : Nat) (S S' : VV) : Prop := S'.2.1 2 = S.2.1 2 ∧ S'.2.1 3 = S.2.1 3 ∧ S'.2.1 4 = S.2.1 4 ∧ (∀ p, n ≤ p → S'.2.1 6 p = S.2.1 6 p) ∧ S'.1 0 = S.1 0 + 1 ∧ S'.1 12 = 1
def dcoreE (n c m : Nat) (aw : Prop) (L0 S0 v0 L S v : VV) : Prop := FR c v0 v ∧ LF L0 L ∧ carR aw c S v ∧ stK n S0 S ∧ dayR c m S v
def dyQ (n m c : Nat) (aw : Prop) (L0 S0 v0 : VV) (r : VV × VV × VV) (v : VV) : Prop := dcoreE n c m aw L0 S0 v0 r.2.1 r.2.2 v
theorem d_hungry {n m c p : Nat} {aw : Prop} {L0 S0 v0 L S v : VV} {x : Int32} (h : dcore n c m aw L0 S0 v0 L S v) (hp : p < 8) : dcore n c m aw L0 S0 v0 L (si (sr S 8 p (S.2.1 8 p + 1)) 10 (S.1 10 + x)) (sr (sr v 34 c (v.2.1 34 c + x)) 41 (8 * c + p) (v.2.1 41 (8 * c + p) + 1)) := by
  obtain ⟨h1, h2, ⟨⟨d1, d2, d3, d4, d5⟩, a2, a3, a4, a5, a6, a7, a8⟩, h4, h5⟩ := h
  exact ⟨h1.trans ((FR_5 34 _ (by omega) (by omega)).trans (FR_8 41 p _ (by omega) (by omega) hp)), h2, ⟨⟨d1, d2, d3, by show S.1 10 + x = upd (v.2.1 34) c _ c; rw [pk_us, d4], d5⟩, a2, a3, a4, a5, RE_upd a6 rfl (by rw [a6 p hp]), a7, a8⟩, h4, h5⟩
theorem d_date {n m c : Nat} {aw : Prop} {L0 S0 v0 L S v : VV} (h : dcore n c m aw L0 S0 v0 L S v) : dcoreE n c m aw L0 S0 v0 L (si (si S 0 (S.1 0 + 1)) 12 1) (sr v 32 c (v.2.1 32 c + 1)) := by
  obtain ⟨h1, h2, ⟨⟨d1, d2, d3, d4, d5⟩, a2, a3, a4, a5, a6, a7, a8⟩, h4, h5⟩ := h
  exact ⟨h1.trans (FR_5 32 _ (by omega) (by omega)), h2, ⟨⟨by show S.1 0 + 1 = upd (v.2.1 32) c _ c; rw [pk_us, d1], d2, d3, d4, d5⟩, a2, a3, a4, a5, a6, a7, a8⟩, ⟨h4.1, h4.2.1, h4.2.2.1, h4.2.2.2.1, by show S.1 0 + 1 = S0.1 0 + 1; rw [h4.2.2.2.2], rfl⟩, h5⟩
theorem hgstep (N : Nat) {n m c : Nat} {aw : Prop} {before : Int32} {P Y L0 S0 v0 : VV} {b : Nat → Int32} (h0 : PR n m P L0 v0) (hc : c < 23) (hb : ∀ q, q < 8 → b q = if bt before q then 1 else 0) (k : Nat) (s : Int32 × VV × VV × VV) (w : Int32 × VV) (hR : hgR n m c aw L0 S0 v0 b k s w) :
    (∃ k' s' w', k' < k ∧ f_X0_goThrough_s61 N s.2.1 P s.2.2.1 s.2.2.2 Y s.1 = some (.inl s') ∧ f_X12_passes_s138 N w.2 (nI c) before w.1 = some (.inl w') ∧ hgR n m c aw L0 S0 v0 b k' s' w') ∨ (∃ r r', f_X0_goThrough_s61 N s.2.1 P s.2.2.1 s.2.2.2 Y s.1 = some (.inr r) ∧ f_X12_passes_s138 N w.2 (nI c) before w.1 = some (.inr r') ∧ dyQ n m c aw L0 S0 v0 r r') := by
  obtain ⟨s1, C, L, S⟩ := s
  obtain ⟨w1, v⟩ := w
  obtain ⟨p, hk, hpn, hs1, hw1, hco, hC⟩ := hR
  simp only at hs1 hw1 hco hC
  subst hs1 hw1
  simp only
  have hn := PR_n h0
  have hm := PR_m h0
  have hP := PR_FR h0 hco.2.1 hco.1
  unfold f_X0_goThrough_s61 f_X12_passes_s138
  rw [PR_P0 hP, PR_v0 hP]
  rcases Nat.lt_or_ge p n with hlt | hge
  · left
    rw [if_neg (nI_ge hlt (by omega)), if_neg (nI_ge hlt (by omega)), pu_bit before (show p < 31 by omega)]
    simp only [pu_gin (show p < 8 by omega) (show 8 < 2 ^ 31 by omega), nI_clamp (show p < 2 ^ 31 by omega), pu_gin (show p < 16 by omega) (show 16 < 2 ^ 31 by omega), pu_gin (show c < 23 by omega) (show 23 < 2 ^ 31 by omega), nI_clamp (show c < 2 ^ 31 by omega), pu_8, pu_gin (show 8 * c + p < 184 by omega) (show 184 < 2 ^ 31 by omega), nI_clamp (show 8 * c + p < 2 ^ 31 by omega)]
    rw [hC p hlt, hb p (by omega), tra0 hP hlt, pu_bnd]
    unfold f_X0_goThrough_b107 f_X12_passes_b194
    by_cases hbt : bt before p = true
    · rw [if_pos hbt, if_neg (show ¬ (1 : Int32) = 0 from by decide), if_neg (show ¬ (1 : Int32) = 0 from by decide)]
      exact ⟨n - (p + 1), _, _, by omega, rfl, rfl, p + 1, rfl, hlt, nI_1 p, nI_1 p, d_hungry hco (by omega), hC⟩
    · rw [if_neg hbt, if_pos (show (0 : Int32) = 0 from rfl), if_pos (show (0 : Int32) = 0 from rfl)]
      exact ⟨n - (p + 1), _, _, by omega, rfl, rfl, p + 1, rfl, hlt, nI_1 p, nI_1 p, hco, hC⟩
  · right
    have : p = n := by omega
    subst this
    rw [if_pos (nI_le (Nat.le_refl p) (by omega)), if_pos (nI_le (Nat.le_refl p) (by omega))]
    simp only [pu_gin (show c < 23 by omega) (show 23 < 2 ^ 31 by omega), nI_clamp (show c < 2 ^ 31 by omega), pu_inrO]
    exact ⟨_, _, rfl, rfl, d_date hco⟩
/-- the loop over the sittings -/
def dlR (n m c : Nat) (aw : Prop) (L0 S0 v0 : VV) (k : Nat) (s : Int32 × Int32 × VV × VV × VV) (w : Int32 × Int32 × Int32 × VV) : Prop := ∃ t b, k = m - t ∧ t ≤ m ∧ s.1 = w.1 ∧ s.2.1 = nI t ∧ w.2.2.1 = nI t ∧ dcore n c t aw L0 S0 v0 s.2.2.2.1 s.2.2.2.2 w.2.2.2 ∧ (∀ q, q < n → s.2.2.1.2.1 0 q = b q) ∧ (∀ q, q < 8 → b q = if bt w.2.1 q then 1 else 0) ∧ tkR n t 0 S0 b ∧ (t = 0 → s.1 = 0)
theorem dlstep (N : Nat) (hN : 66 < N) {n m c : Nat} {aw : Prop} {bn : Int32} {P Y L0 S0 v0 : VV} (h0 : PR n m P L0 v0) (hW : wayR n P Y v0 bn) (hc : c < 23) (hsg : ∀ u, u < 3 → ∃ s : Nat, s ≤ 3 ∧ S0.2.1 3 u = nI s) (haw : v0.1 50 = 2 → ¬ aw) (k : Nat) (s : Int32 × Int32 × VV × VV × VV) (w : Int32 × Int32 × Int32 × VV) (hR : dlR n m c aw L0 S0 v0 k s w) :
    (∃ k' s' w', k' < k ∧ f_X0_goThrough_s30 N s.2.2.1 P s.2.2.2.1 s.2.2.2.2 Y s.1 s.2.1 = some (.inl s') ∧ f_X12_passes_s8 N w.2.2.2 (nI c) bn w.1 w.2.1 w.2.2.1 = some (.inl w') ∧ dlR n m c aw L0 S0 v0 k' s' w') ∨ (∃ r r', f_X0_goThrough_s30 N s.2.2.1 P s.2.2.2.1 s.2.2.2.2 Y s.1 s.2.1 = some (.inr r) ∧ f_X12_passes_s8 N w.2.2.2 (nI c) bn w.1 w.2.1 w.2.2.1 = some (.inr r') ∧ dyQ n m c aw L0 S0 v0 r r') := by
  obtain ⟨s1, s2, C, L, S⟩ := s
  obtain ⟨w1, before, w2, v⟩ := w
  obtain ⟨t, b, hk, htm, hs1, hs2, hw2, hco, hC, hb, htk, hr0⟩ := hR
  simp only at hs1 hs2 hw2 hco hC hb hr0
  subst hs1 hs2 hw2
  simp only
  have hn := PR_n h0
  have hm := PR_m h0
  have hP := PR_FR h0 hco.2.1 hco.1
  rcases Nat.lt_or_ge t m with hlt | hge
  · left
    obtain ⟨rdy, C', L', S', v', before', b', g1, g2, g3, g4, g5, g6⟩ := sitting1 (ready := s1) N hN h0 hW hlt hc hsg haw hb htk hC hr0 hco
    unfold f_X0_goThrough_s30
    rw [PR_P3 hP, if_neg (nI_ge hlt (by omega)), g1, pu_bnd, g2]
    exact ⟨m - (t + 1), _, _, by omega, rfl, rfl, t + 1, b', rfl, hlt, rfl, nI_1 t, nI_1 t, g3, g4, g5, g6, fun h => absurd h (by omega)⟩
  · right
    have : t = m := by omega
    subst this
    unfold f_X0_goThrough_s30 f_X12_passes_s8
    rw [PR_P3 hP, PR_v2 hP, if_pos (nI_le (Nat.le_refl t) (by omega)), if_pos (nI_le (Nat.le_refl t) (by omega))]
    obtain ⟨r, r', h1, h2, h3⟩ := itr2 (hgR n t c aw L0 S0 v0 b) (dyQ n t c aw L0 S0 v0) (hgstep (Y := Y) N h0 hc hb) N n (0, C, L, S) (0, v) (by omega) ⟨0, rfl, by omega, rfl, rfl, hco, hC⟩
    exact ⟨r, r', by rw [h1]; rfl, by rw [h2]; rfl, h3⟩
theorem day_goes (N : Nat) (hN : 66 < N) {n m c : Nat} {aw : Prop} {bn : Int32} {C P L S Y v : VV} (h0 : PR n m P L v) (hW : wayR n P Y v bn) (hc : c < 23) (hsg : ∀ u, u < 3 → ∃ s : Nat, s ≤ 3 ∧ S.2.1 3 u = nI s) (haw : v.1 50 = 2 → ¬ aw) (hcar : carR aw c S v) :
    ∃ C' L' S' v', f_X0_goThrough N C P L S Y = some (C', L', S') ∧ f_X12_passes N v (nI c) bn = some v' ∧ dcoreE n c m aw L S v L' S' v' := by
  have hn := PR_n h0
  have hm := PR_m h0
  obtain ⟨C8, hC8⟩ : ∃ C8 : Nat → VV, C8 = fun i => (C.1, (fun q => if q = 0 then (fun j => if j < i then 0 else C.2.1 0 j) else C.2.1 q), C.2.2) := ⟨_, rfl⟩
  obtain ⟨r, r', h1, h2, h3⟩ := itr2 (dlR n m c aw L S v) (dyQ n m c aw L S v) (dlstep N hN h0 hW hc hsg haw) N m (0, 0, C8 8, L, S) (0, 0, 0, v) (by omega) ⟨0, fun _ => 0, rfl, by omega, rfl, rfl, rfl, ⟨FR.refl c v, LF.refl L, hcar, stG.refl n S, fun u hu => by omega⟩, fun q hq => by subst hC8; show (if q < 8 then (0 : Int32) else _) = 0; rw [if_pos (by omega)], fun q _ => by show (0 : Int32) = if bt 0 q then 1 else 0; rw [b_0]; rfl, fun q hq hb => absurd rfl hb, fun _ => rfl⟩
  obtain ⟨C', L', S'⟩ := r
  refine ⟨C', L', S', r', ?_, h2, h3⟩
  unfold f_X0_goThrough
  have hC0 : C8 0 = C := by
    subst hC8
    show (C.1, (fun q => if q = 0 then (fun j => if j < 0 then 0 else C.2.1 0 j) else C.2.1 q), C.2.2) = C
    congr 2
    funext q
    by_cases e : q = 0
    · subst e; rfl
    · rw [if_neg e]
  have := itrF (A := fun q : Int32 × VV × VV × VV => f_X0_goThrough_s3 N q.2.1 P q.2.2.1 q.2.2.2 Y q.1) 8 (fun i => (nI i, C8 i, L, S)) (C', L', S') (fun i hi => by
      show f_X0_goThrough_s3 N (C8 i) P L S Y (nI i) = _
      unfold f_X0_goThrough_s3
      rw [if_neg (show ¬ (8 : Int32) ≤ nI (i) from nI_ge (a := i) (b := 8) (by omega) (by omega)), pu_gin (show i < 8 by omega) (show 8 < 2 ^ 31 by omega), nI_clamp (show i < 2 ^ 31 by omega), nI_1]
      refine congrArg (fun z : VV => some (Sum.inl (nI (i + 1), z, L, S))) ?_
      subst hC8
      show ((C.1, _, C.2.2) : VV) = (C.1, _, C.2.2)
      congr 2
      funext q j
      show (if q = 0 then upd _ i 0 else _) j = _
      by_cases e : q = 0
      · subst e
        show upd (fun j => if j < i then (0 : Int32) else C.2.1 0 j) i 0 j = if j < i + 1 then 0 else C.2.1 0 j
        rw [pu_upd]
        by_cases e1 : j = i
        · rw [if_pos e1, if_pos (by omega)]
        · rw [if_neg e1]
          by_cases e2 : j < i
          · rw [if_pos e2, if_pos (by omega)]
          · rw [if_neg e2, if_neg (by omega)]
      · simp only [if_neg e]) (by
      show f_X0_goThrough_s3 N (C8 8) P L S Y (nI 8) = _
      unfold f_X0_goThrough_s3
      rw [if_pos (show (8 : Int32) ≤ nI 8 from nI_le (Nat.le_refl 8) (by omega)), h1]; rfl) N 0 (by omega) (by omega)
  rw [hC0] at this
  exact this
