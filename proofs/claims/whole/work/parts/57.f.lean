theorem itr_s {σ ρ : Type} {A : σ → Option (σ ⊕ ρ)} {n : Nat} {s t : σ} (hn : 0 < n) (h : A s = some (.inl t)) : itr A n s = itr A (n - 1) t := by
  obtain ⟨k, rfl⟩ : ∃ k, n = k + 1 := ⟨n - 1, by omega⟩
  show itr A (k + 1) s = itr A k t
  conv => lhs; unfold itr
  rw [h]
theorem itr_e {σ ρ : Type} {A : σ → Option (σ ⊕ ρ)} {n : Nat} {s : σ} {r : ρ} (hn : 0 < n) (h : A s = some (.inr r)) : itr A n s = some r := by
  obtain ⟨k, rfl⟩ : ∃ k, n = k + 1 := ⟨n - 1, by omega⟩
  unfold itr
  rw [h]
theorem FR_sw {c k : Nat} {v v' : VV} (f : Nat → Int32) (hk : 47 < k) (h : FR c v v') : FR c (sw v k f) (sw v' k f) := by
  refine ⟨h.1, fun q hq => ?_, fun q j a b d => ?_, fun q j a b d => ?_, fun q j a b d => ?_⟩
  · rw [pu_sw2, pu_sw2]
    by_cases e : q = k
    · rw [if_pos e, if_pos e]
    · rw [if_neg e, if_neg e]; exact h.2.1 q hq
  · rw [pu_sw2, pu_sw2, if_neg (by omega), if_neg (by omega)]; exact h.2.2.1 q j a b d
  · rw [pu_sw2, pu_sw2, if_neg (by omega), if_neg (by omega)]; exact h.2.2.2.1 q j a b d
  · rw [pu_sw2, pu_sw2, if_neg (by omega), if_neg (by omega)]; exact h.2.2.2.2 q j a b d
theorem sw_sr (w : VV) (k i : Nat) (x : Int32) (f : Nat → Int32) : sw (sr w k i x) k f = sw w k f := by
  refine Prod.ext rfl (Prod.ext ?_ rfl)
  funext q
  show (if q = k then f else if q = k then _ else w.2.1 q) = if q = k then f else w.2.1 q
  by_cases e : q = k
  · rw [if_pos e, if_pos e]
  · rw [if_neg e, if_neg e, if_neg e]
def ltJ (v w : VV) : Prop := KV v (sw w 54 (v.2.1 54)) ∧ ∀ u, 3 ≤ u → w.2.1 54 u = v.2.1 54 u
theorem lj_0 (v : VV) : ltJ v v := by
  refine ⟨?_, fun _ _ => rfl⟩
  have : sw v 54 (v.2.1 54) = v := by
    refine Prod.ext rfl (Prod.ext ?_ rfl)
    funext q
    show (if q = 54 then v.2.1 54 else v.2.1 q) = v.2.1 q
    by_cases e : q = 54
    · rw [if_pos e, e]
    · rw [if_neg e]
  rw [this]; exact KV.refl v
theorem lj_sr {v w : VV} {i : Nat} (h : ltJ v w) (hi : i < 3) (x : Int32) : ltJ v (sr w 54 i x) := by
  refine ⟨by rw [sw_sr]; exact h.1, fun u hu => ?_⟩
  show upd (w.2.1 54) i x u = _
  rw [pu_upd, if_neg (by omega)]; exact h.2 u hu
theorem lj_end {v w : VV} (h : ltJ v w) (hr : rfR v) (hz : ∀ u, u < 3 → w.2.1 54 u = 0) : KV v w := by
  have e : sw w 54 (v.2.1 54) = w := by
    refine Prod.ext rfl (Prod.ext ?_ rfl)
    funext q
    show (if q = 54 then v.2.1 54 else w.2.1 q) = w.2.1 q
    by_cases e : q = 54
    · rw [if_pos e, e]
      funext u
      rcases Nat.lt_or_ge u 3 with hu | hu
      · rw [hr.2 u hu, hz u hu]
      · rw [h.2 u hu]
    · rw [if_neg e]
  have := h.1
  rw [e] at this; exact this
theorem lj_step (N : Nat) (hN : 66 < N) {n m : Nat} {X : VV} {T : Nat → Int32} {R P L S Im Wa Wb Z U D E v L' w Y Y' : VV} (X0 Tr C : VV) (h : INV0 n m X T R P L S Im Wa Wb Z U D E v) (hL : LF L L') (hj : ltJ v w) (hw : waR Y 0) (h1 : Y'.1 = Y.1) (h4 : ∀ u, u < 3 → Y'.2.1 7 u = w.2.1 54 u) :
    ∃ L2 Tr2 C2 w2, f_X11_tryToday N X0 P L' S Tr C Y' = some (L2, Tr2, C2) ∧ f_X12_today N w = some w2 ∧ LF L L2 ∧ ltJ v w2 ∧ w2.2.1 54 = w.2.1 54 ∧ w2.2.1 10 = v.2.1 10 ∧ w2.2.1 3 = v.2.1 3 ∧ dayR 1 m Tr2 w2 := by
  obtain ⟨hP, hS, _, _, _, _, hRf, _⟩ := inv_kv h hL hj.1
  have hP' : PR n m P L' w := PR_tr hP (fun k hk => by rw [pu_sw2, if_neg (by omega)]) rfl (fun _ _ => rfl)
  have hS' : stR n m 0 S w := st_cs (PR_m hP) hS ⟨by rw [pu_sw2, if_neg (by omega)], fun k _ _ => by rw [pu_sw2, if_neg (by omega)], fun k _ _ _ _ => by rw [pu_sw2, if_neg (by omega)], fun k _ _ _ _ => by rw [pu_sw2, if_neg (by omega)]⟩
  have hW : wayR n P Y' w 0 := way_shift hP hw hRf h1 ⟨rfl, rfl, rfl, rfl⟩ (by rw [pu_sw2, if_neg (by omega)]) h4
  obtain ⟨L2, Tr2, C2, w2, g1, g2, g3, g4, g5, g6⟩ := todayR N hN X0 Tr C hP' hS' hW (show ¬ w.1 50 = 2 by rw [show w.1 50 = 0 from hRf.1.1]; decide)
  have e54 : w2.2.1 54 = w.2.1 54 := g3.2.1 54 (by omega)
  refine ⟨L2, Tr2, C2, w2, g1, g2, hL.trans g4, ⟨hj.1.trans (KV_FR (FR_sw _ (by omega) g3)), fun u hu => by rw [e54]; exact hj.2 u hu⟩, e54, ?_, ?_, g5⟩
  · rw [g3.2.1 10 (by omega)]; have := hj.1.2.1 10 (by omega); rw [pu_sw2, if_neg (by omega)] at this; exact this
  · rw [g3.2.1 3 (by omega)]; have := hj.1.2.1 3 (by omega); rw [pu_sw2, if_neg (by omega)] at this; exact this
theorem late0 {x : Nat} (hx : x ≤ 999) : jmax 0 (nI x + 0) - nI x - 0 = 0 := by
  rw [Int32.add_zero, Int32.sub_zero]
  unfold jmax
  by_cases e : (0 : Int32) < nI x
  · rw [if_pos e, Int32.sub_self]
  · rw [if_neg e]
    have : x = 0 := by
      rcases Nat.eq_zero_or_pos x with h | h
      · exact h
      · exact absurd (nI_lt (a := 0) (b := x) (by omega) (by omega)) e
    subst this; decide
theorem st_later (N : Nat) (hN : 66 < N) : ST_later N INV := by
  intro cv T B v a1 hI
  obtain ⟨n, m, h⟩ := hI
  have h' := inv_kv h (LF.refl _) (KV_0 v)
  obtain ⟨hP, hS, hT, hIm, hWa, hWb, hRf, hH, hU, hRd, hG, hE⟩ := id h'
  have hm := PR_m hP
  unfold f_X11_later f_X12_later
  rcases hasS hP a1 with ⟨t, ht, rfl, e1, e2⟩ | ⟨e1, e2⟩
  · obtain ⟨Y0, y1, y2⟩ := resetR N hN (cv 14)
    simp only [e1, e2, pu_bnd, n10, ↓reduceIte, y1]
    have hv2 : ∀ w : VV, w.2.1 3 = (si v 0 0).2.1 3 → w.2.1 3 2 = nI m := fun w e => by rw [e]; exact PR_v2 hP
    -- the reference's turn
    have ref : ∀ (w w2 Tr2 : VV) (i : Nat), i < m → w.2.1 3 = (si v 0 0).2.1 3 → f_X12_today N w = some w2 → w2.2.1 54 = w.2.1 54 → dayR 1 m Tr2 w2 → f_X12_later_s17 N w (nI t) (nI i) = some (.inl (nI (i + 1), sr w2 54 i (w.2.1 54 i + Tr2.2.1 14 i))) := by
      intro w w2 Tr2 i hi e3 g1 g2 g3
      unfold f_X12_later_s17
      rw [hv2 w e3, if_neg (nI_ge hi (show m < 2 ^ 31 by omega)), g1, pu_bnd, pu_gin (show i < 3 by omega) (show 3 < 2 ^ 31 by omega), lateInR g3 hi hm, pu_bnd, pu_gin (show i < 3 by omega) (show 3 < 2 ^ 31 by omega), nI_clamp (show i < 2 ^ 31 by omega), nI_1, g2]
    -- what is left for the reference behind the class's last turn
    have zero : ∀ (x : Int32) (w : VV), ltJ (si v 0 0) w → ∃ r, itr (fun q : Int32 × VV => f_X12_later_s61 N q.2 x q.1) N (0, w) = some r ∧ r.1 = x ∧ KV (si v 0 0) r.2 := by
      intro x w hw
      refine itr1 (fun k (s : Int32 × VV) => ∃ i, k = 3 - i ∧ i ≤ 3 ∧ s.1 = nI i ∧ ltJ (si v 0 0) s.2 ∧ ∀ u, u < i → s.2.2.1 54 u = 0) (fun r : Int32 × VV => r.1 = x ∧ KV (si v 0 0) r.2) ?_ N 3 (0, w) (by omega) ⟨0, rfl, by omega, rfl, hw, fun u hu => by omega⟩
      intro k s hR
      obtain ⟨s1, w⟩ := s
      obtain ⟨i, hk, hi, f1, f2, f3⟩ := hR
      simp only at f1 f2 f3
      subst f1
      simp only
      unfold f_X12_later_s61
      rcases Nat.lt_or_ge i 3 with hlt | hge
      · left
        rw [if_neg (show ¬ (3 : Int32) ≤ nI (i) from nI_ge (a := i) (b := 3) (by omega) (by omega)), pu_gin (show i < 3 by omega) (show 3 < 2 ^ 31 by omega), nI_clamp (show i < 2 ^ 31 by omega), nI_1]
        refine ⟨3 - (i + 1), _, by omega, rfl, i + 1, rfl, by omega, rfl, lj_sr f2 hlt 0, fun u hu => ?_⟩
        show upd (w.2.1 54) i 0 u = 0
        by_cases e : u = i
        · subst e; rw [pk_us]
        · rw [pk_un e]; exact f3 u (by omega)
      · right
        have : i = 3 := by omega
        subst this
        rw [if_pos (show (3 : Int32) ≤ nI 3 from by decide), pu_inrO]
        exact ⟨_, rfl, rfl, lj_end f2 hRf f3⟩
    have tail : ∀ (w Y' : VV) (i : Nat) (nn : Nat), t < i → i ≤ m → 3 < nn → ltJ (si v 0 0) w → w.2.1 3 = (si v 0 0).2.1 3 → ∃ r, itr (fun q : Int32 × VV => f_X12_later_s17 N q.2 (nI t) q.1) nn (nI i, w) = some r ∧ r.1 = w.2.1 54 t ∧ KV (si v 0 0) r.2 := by
      intro w Y' i nn hi1 hi2 hn hw h3
      refine itr1 (fun k (s : Int32 × VV) => ∃ i, k = m - i ∧ t < i ∧ i ≤ m ∧ s.1 = nI i ∧ ltJ (si v 0 0) s.2 ∧ s.2.2.1 54 t = w.2.1 54 t ∧ s.2.2.1 3 = (si v 0 0).2.1 3) (fun r : Int32 × VV => r.1 = w.2.1 54 t ∧ KV (si v 0 0) r.2) ?_ nn (m - i) (nI i, w) (by omega) ⟨i, rfl, hi1, hi2, rfl, hw, rfl, h3⟩
      intro k s hR
      obtain ⟨s1, w'⟩ := s
      obtain ⟨i, hk, hi1, hi, f1, f2, f3, f4⟩ := hR
      simp only at f1 f2 f3 f4
      subst f1
      simp only
      rcases Nat.lt_or_ge i m with hlt | hge
      · left
        obtain ⟨L2, Tr2, C2, w2, g1, g2, g3, g4, g5, g6, g7, g8⟩ := lj_step (Y := Y0) (Y' := (Y0.1, (fun k => if k = 7 then w'.2.1 54 else Y0.2.1 k), Y0.2.2)) N hN (cv 0) (cv 10) (cv 11) h' (LF.refl _) f2 y2 rfl (fun u hu => rfl)
        rw [ref w' w2 Tr2 i hlt f4 g2 g5 g8]
        refine ⟨m - (i + 1), _, by omega, rfl, i + 1, rfl, by omega, hlt, rfl, lj_sr g4 (by omega) _, ?_, g7⟩
        show upd (w2.2.1 54) i _ t = _
        rw [pk_un (by omega), g5]; exact f3
      · right
        have : i = m := by omega
        subst this
        obtain ⟨r, z1, z2, z3⟩ := zero (w'.2.1 54 t) w' f2
        unfold f_X12_later_s17
        rw [hv2 w' f4, if_pos (nI_le (Nat.le_refl i) (show i < 2 ^ 31 by omega)), pu_gin (show t < 3 by omega) (show 3 < 2 ^ 31 by omega), nI_clamp (show t < 2 ^ 31 by omega), z1, pu_inrO]
        exact ⟨_, rfl, by rw [z2, f3], z3⟩
    -- the reference's first turn
    obtain ⟨L2, Tr2, C2, w2, g1, g2, g3, g4, g5, g6, g7, g8⟩ := lj_step (Y := Y0) (Y' := Y0) N hN (cv 0) (cv 10) (cv 11) h' (LF.refl _) (lj_0 _) y2 rfl (fun u hu => by rw [y2.2 u hu, hRf.2 u hu])
    have l0 : (si v 0 0).2.1 54 0 + Tr2.2.1 14 0 = 0 := by
      obtain ⟨x, hx, ex⟩ := (PR_sB hP (show 0 < m by omega)).1
      obtain ⟨⟨_, _, a3⟩, a4, _⟩ := g8 0 (by omega)
      have z : w2.2.1 54 0 = 0 := by rw [g5]; exact hRf.2 0 (by omega)
      have := a3 rfl
      rw [a4, this, z, g6, ex, late0 hx, show (si v 0 0).2.1 54 0 = 0 from hRf.2 0 (by omega)]; rfl
    have first := itr_s (A := fun q : Int32 × VV => f_X12_later_s17 N q.2 (nI t) q.1) (n := N) (s := (nI 0, si v 0 0)) (by omega) (ref (si v 0 0) w2 Tr2 0 (by omega) rfl g2 g5 g8)
    obtain ⟨r, r', k1, k2, k3⟩ := itr2x (A := fun q : Int32 × VV × VV × VV × VV => f_X11_later_s22 N (cv 0) (cv 6) q.2.1 (cv 8) q.2.2.1 q.2.2.2.1 q.2.2.2.2 (nI t) q.1) (B := fun q : Int32 × VV => f_X12_later_s17 N q.2 (nI t) q.1) (fun k s s' => ∃ i, k = t + 1 - i ∧ 1 ≤ i ∧ i ≤ t + 1 ∧ s.1 = nI i ∧ s'.1 = nI i ∧ LF (cv 7) s.2.1 ∧ ltJ (si v 0 0) s'.2 ∧ s'.2.2.1 3 = (si v 0 0).2.1 3 ∧ s.2.2.2.2.1 = Y0.1 ∧ (∀ u, u < 3 → s.2.2.2.2.2.1 7 u = s'.2.2.1 54 u) ∧ ∀ u, i ≤ u → u < 3 → s'.2.2.1 54 u = 0) (fun r r' => r.1 = r'.1 ∧ LF (cv 7) r.2.1 ∧ KV (si v 0 0) r'.2) 3 (by
      intro k s s' hR
      obtain ⟨s1, L, Tr, C, Wo⟩ := s
      obtain ⟨s1', w⟩ := s'
      obtain ⟨i, hk, hi1, hi, f1, f2, f3, f4, f5, f6, f7, f8⟩ := hR
      simp only at f1 f2 f3 f4 f5 f6 f7 f8
      subst f1 f2
      simp only
      rcases Nat.lt_or_ge i (t + 1) with hlt | hge
      · left
        obtain ⟨L2, Tr2, C2, w2, g1, g2, g3, g4, g5, g6, g7, g8⟩ := lj_step (Y := Y0) (Y' := Wo) N hN (cv 0) Tr C h' f3 f4 y2 f6 f7
        rw [ref w w2 Tr2 i (by omega) f5 g2 g5 g8]
        unfold f_X11_later_s22
        rw [if_neg (show ¬ nI t < nI i from nI_nlt (by omega) (by omega)), g1, pu_bnd, pu_gin (show i < 3 by omega) (show 3 < 2 ^ 31 by omega), pu_gin (show i < 3 by omega) (show 3 < 2 ^ 31 by omega), nI_clamp (show i < 2 ^ 31 by omega), nI_1]
        refine ⟨t + 1 - (i + 1), _, _, by omega, rfl, rfl, i + 1, rfl, by omega, by omega, rfl, rfl, g3, lj_sr g4 (by omega) _, g7, f6, fun u hu => ?_, fun u hu hu' => ?_⟩
        · show upd (Wo.2.1 7) i _ u = upd (w2.2.1 54) i _ u
          by_cases e : u = i
          · subst e; rw [pk_us, pk_us, f8 u (Nat.le_refl u) hu, Int32.zero_add]
          · rw [pk_un e, pk_un e, g5]; exact f7 u hu
        · show upd (w2.2.1 54) i _ u = 0
          rw [pk_un (by omega), g5]; exact f8 u (by omega) hu'
      · right
        have : i = t + 1 := by omega
        subst this
        unfold f_X11_later_s22
        rw [if_pos (show nI t < nI (t + 1) from nI_lt (by omega) (by omega)), pu_gin (show t < 3 by omega) (show 3 < 2 ^ 31 by omega), nI_clamp (show t < 2 ^ 31 by omega), pu_inrO]
        refine ⟨_, rfl, fun nn hnn => ?_⟩
        obtain ⟨r', z1, z2, z3⟩ := tail w Y0 (t + 1) nn (by omega) (by omega) hnn f4 f5
        exact ⟨r', z1, by rw [z2]; exact f7 t (by omega), f3, z3⟩) N (N - 1) t (1, cv 7, cv 10, cv 11, Y0) (nI (0 + 1), sr w2 54 0 ((si v 0 0).2.1 54 0 + Tr2.2.1 14 0)) (by omega) (by omega) ⟨1, by omega, by omega, by omega, rfl, rfl, LF.refl _, lj_sr g4 (by omega) _, g7, rfl, fun u hu => by
        show Y0.2.1 7 u = upd (w2.2.1 54) 0 _ u
        rw [y2.2 u hu]
        by_cases e : u = 0
        · subst e; rw [pk_us, l0]
        · rw [pk_un e, g5]; exact (hRf.2 u hu).symm, fun u hu hu' => by
        show upd (w2.2.1 54) 0 _ u = 0
        rw [pk_un (by omega), g5]; exact hRf.2 u hu'⟩
    obtain ⟨r1, L', Tr', C', W'⟩ := r
    obtain ⟨r2, w'⟩ := r'
    simp only at k3
    obtain ⟨rfl, q1, q2⟩ := k3
    exact ⟨_, _, _, _, _, _, k1, first.trans k2, n, m, inv_kv h' q1 q2⟩
  · simp only [e1, e2, pu_bnd, ↓reduceIte]; exact ⟨_, _, _, _, _, _, rfl, rfl, n, m, h'⟩
