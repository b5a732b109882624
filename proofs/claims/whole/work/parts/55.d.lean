/-! Calls in which days go by. -/
theorem cpy0 {f g : Nat → Int32} {n j : Nat} (h : j < n) : va_cpy f g 0 0 n j = f j := by
  rw [pk_cpy_in (by omega) (by omega), show 0 + (j - 0) = j by omega]
def sameS (S S' : VV) : Prop := (S'.1 0 = S.1 0 ∧ S'.1 1 = S.1 1 ∧ S'.1 9 = S.1 9 ∧ S'.1 10 = S.1 10 ∧ S'.1 11 = S.1 11 ∧ S'.1 12 = S.1 12) ∧ (∀ p, p < 8 → S'.2.1 2 p = S.2.1 2 p ∧ S'.2.1 5 p = S.2.1 5 p ∧ S'.2.1 6 p = S.2.1 6 p ∧ S'.2.1 7 p = S.2.1 7 p ∧ S'.2.1 8 p = S.2.1 8 p) ∧ (∀ u, u < 3 → S'.2.1 3 u = S.2.1 3 u ∧ S'.2.1 4 u = S.2.1 4 u ∧ S'.2.1 13 u = S.2.1 13 u ∧ S'.2.1 14 u = S.2.1 14 u ∧ S'.2.1 15 u = S.2.1 15 u ∧ S'.2.1 16 u = S.2.1 16 u ∧ S'.2.1 17 u = S.2.1 17 u)
theorem copyR {S : VV} (Tr : VV) (h : S.1 12 = 0 ∨ S.1 12 = 1) : ∃ Tr', f_X8_copy Tr S = some Tr' ∧ sameS S Tr' := by
  unfold f_X8_copy gbz
  rw [if_pos h]
  exact ⟨_, rfl, ⟨rfl, rfl, rfl, rfl, rfl, rfl⟩, fun p hp => ⟨cpy0 hp, cpy0 hp, cpy0 hp, cpy0 hp, cpy0 hp⟩, fun u hu => ⟨cpy0 hu, cpy0 hu, cpy0 hu, cpy0 hu, cpy0 hu, cpy0 hu, cpy0 hu⟩⟩
theorem car_same {aw : Prop} {c : Nat} {S S' v : VV} (h : carR aw c S v) (hs : sameS S S') : carR aw c S' v := by
  obtain ⟨⟨d1, d2, d3, d4, d5⟩, a2, a3, a4, a5, a6, a7, a8⟩ := h
  obtain ⟨⟨e1, e2, e3, e4, e5, e6⟩, s2, s3⟩ := hs
  exact ⟨⟨e1.trans d1, e2.trans d2, e3.trans d3, e4.trans d4, e5.trans d5⟩, fun p hp => (s2 p hp).1.trans (a2 p hp), fun p hp => (s2 p hp).2.1.trans (a3 p hp), fun p hp => (s2 p hp).2.2.1.trans (a4 p hp), fun w p hp => (s2 p hp).2.2.2.1.trans (a5 w p hp), fun p hp => (s2 p hp).2.2.2.2.trans (a6 p hp), fun u hu => (s3 u hu).1.trans (a7 u hu), fun u hu => (s3 u hu).2.1.trans (a8 u hu)⟩
theorem st_same {n m c : Nat} {S S' v : VV} (hm : m ≤ 3) (h : stR n m c S v) (hs : sameS S S') : stR n m c S' v := by
  obtain ⟨h1, h2, h3, h4, h5, h6⟩ := h
  refine ⟨car_same h1 hs, ?_, fun u hu => ?_, fun p hp => ?_, fun p hp hp' => ?_, ?_⟩
  · rcases h2 with ⟨a, b⟩ | ⟨a, b⟩
    · exact Or.inl ⟨hs.1.2.2.2.2.2.trans a, b⟩
    · refine Or.inr ⟨hs.1.2.2.2.2.2.trans a, fun u hu => ?_⟩
      obtain ⟨_, _, e1, e2, e3, e4, e5⟩ := hs.2.2 u (by omega)
      rw [e1, e2, e3, e4, e5]; exact b u hu
  · rw [(hs.2.2 u hu).1]; exact h3 u hu
  · rw [(hs.2.1 p hp).1]; exact h4 p hp
  · rw [(hs.2.1 p hp').2.2.1]; exact h5 p hp hp'
  · rw [hs.1.1]; exact h6
theorem car_aw {aw : Prop} {c : Nat} {S v : VV} (h : carR True c S v) : carR aw c S v := ⟨h.1, h.2.1, h.2.2.1, h.2.2.2.1, fun _ => h.2.2.2.2.1 trivial, h.2.2.2.2.2⟩
def sgS (S : VV) : Prop := ∀ u, u < 3 → ∃ s : Nat, s ≤ 3 ∧ S.2.1 3 u = nI s
theorem sg_same {S S' : VV} (h : sgS S) (hs : sameS S S') : sgS S' := fun u hu => by rw [(hs.2.2 u hu).1]; exact h u hu
theorem seen01 {m c : Nat} {S v : VV} (h : seenR m c S v) : S.1 12 = 0 ∨ S.1 12 = 1 := by
  rcases h with ⟨a, _⟩ | ⟨a, _⟩
  · exact Or.inl a
  · exact Or.inr a
theorem nonneg_ne {x : Int32} (h : ¬ x < 0) : ¬ x = -1 := fun e => h (by rw [e]; decide)
/-- the state is copied on both sides -/
theorem try1 (N : Nat) (hN : 66 < N) {n m : Nat} {P L Y v S : VV} {bn : Int32} (Tr : VV) (hP : PR n m P L v) (hS : stR n m 0 S v) (hW : wayR n P Y v bn) :
    ∃ Tr1 w, f_X8_copy Tr S = some Tr1 ∧ f_X12_copies N v 1 0 = some w ∧ FR 1 v w ∧ PR n m P L w ∧ wayR n P Y w bn ∧ stR n m 1 Tr1 w ∧ sameS S Tr1 ∧ w.1 = v.1 := by
  obtain ⟨Tr1, h1, h2⟩ := copyR Tr (seen01 hS.2.1)
  obtain ⟨w, h3, h4⟩ := copiesR (a := 1) (b := 0) N hN v (by omega) (by omega) (by omega)
  have hF := cp_FR h4
  exact ⟨Tr1, w, h1, h3, hF, PR_FR hP (LF.refl L) hF, way_FR hW hF, st_cs (PR_m hP) (st_same (PR_m hP) hS h2) (cs_cp h4), h2, h4.1⟩
/-- a day in car 1 -/
theorem day1 (N : Nat) (hN : 66 < N) {n m : Nat} {aw : Prop} {P L Y v S : VV} {bn : Int32} (C : VV) (hP : PR n m P L v) (hW : wayR n P Y v bn) (haw : v.1 50 = 2 → ¬ aw) (hc : carR aw 1 S v) (hs : sgS S) :
    ∃ C' L' S' w, f_X0_goThrough N C P L S Y = some (C', L', S') ∧ f_X12_passes N v 1 bn = some w ∧ FR 1 v w ∧ LF L L' ∧ PR n m P L' w ∧ wayR n P Y w bn ∧ carR aw 1 S' w ∧ sgS S' ∧ dayR 1 m S' w ∧ (∀ k, k ≠ 31 → k ≠ 55 → k ≠ 56 → k ≠ 57 → w.1 k = v.1 k) := by
  obtain ⟨C', L', S', w, h1, h2, h3, h4, h5, h6, h7⟩ := day_goes (C := C) N hN hP hW (by omega) hs haw hc
  exact ⟨C', L', S', w, h1, h2, h3, h4, PR_FR hP h4 h3, way_FR hW h3, h5, fun u hu => by rw [h6.2.1]; exact hs u hu, h7, h3.1⟩
theorem todayR (N : Nat) (hN : 66 < N) {n m : Nat} {P L Y v S : VV} (X Tr C : VV) (hP : PR n m P L v) (hS : stR n m 0 S v) (hW : wayR n P Y v 0) (h50 : ¬ v.1 50 = 2) :
    ∃ L' Tr' C' w, f_X11_tryToday N X P L S Tr C Y = some (L', Tr', C') ∧ f_X12_today N v = some w ∧ FR 1 v w ∧ LF L L' ∧ dayR 1 m Tr' w ∧ PR n m P L' w := by
  obtain ⟨Tr1, w, h1, h2, h3, h4, h5, h6, h7, h8⟩ := try1 N hN Tr hP hS hW
  obtain ⟨C', L', S', w', g1, g2, g3, g4, g5, g6, g7, g8, g9, g10⟩ := day1 (aw := True) N hN C h4 h5 (fun e => absurd (h8 ▸ e) h50) h6.1 h6.2.2.1
  refine ⟨L', S', C', w', ?_, ?_, h3.trans g3, g4, g9, g5⟩
  · unfold f_X11_tryToday; simp only [h1, g1, pu_bnd]
  · unfold f_X12_today; simp only [h2, g2, pu_bnd]
theorem lateInR {m t : Nat} {S w : VV} (h : dayR 1 m S w) (ht : t < m) (hm : m ≤ 3) : f_X12_lateIn w 1 (nI t) = some (S.2.1 14 t) := by
  unfold f_X12_lateIn
  show gin (3 * nI 1 + nI t) 69 (gin (nI t) 6 (gin (nI t) 3 (some (w.2.1 44 (3 * nI 1 + nI t).toNatClampNeg - w.2.1 10 (nI t).toNatClampNeg - w.2.1 54 (nI t).toNatClampNeg)))) = _
  rw [pu_3, pu_gin (show 3 * 1 + t < 69 by omega) (show 69 < 2 ^ 31 by omega), pu_gin (show t < 6 by omega) (show 6 < 2 ^ 31 by omega), pu_gin (show t < 3 by omega) (show 3 < 2 ^ 31 by omega), nI_clamp (show 3 * 1 + t < 2 ^ 31 by omega), nI_clamp (show t < 2 ^ 31 by omega), (h t ht).2.1]
theorem st_late (N : Nat) (hN : 66 < N) : ST_late N INV := by
  intro cv T B v a1 hI
  obtain ⟨n, m, h⟩ := hI
  have h' := inv_kv h (LF.refl _) (KV_0 v)
  obtain ⟨hP, hS, hT, hIm, hWa, hWb, hRf, hH, hU, hRd, hG, hE⟩ := id h'
  have hm := PR_m hP
  have hW := way_std hP hWa hRf
  unfold f_X11_late f_X12_late
  rcases hasS hP a1 with ⟨t, ht, rfl, e1, e2⟩ | ⟨e1, e2⟩
  · obtain ⟨L', Tr', C', w, g1, g2, g3, g4, g5, _⟩ := todayR N hN (cv 0) (cv 10) (cv 11) hP hS hW (by rw [hRf.1.1]; decide)
    simp only [e1, e2, pu_bnd, n10, ↓reduceIte, g1, g2, lateInR g5 ht hm, pu_gin (show t < 3 by omega) (show 3 < 2 ^ 31 by omega), nI_clamp (show t < 2 ^ 31 by omega)]
    exact ⟨_, _, _, _, _, rfl, rfl, n, m, inv_kv h' g4 (KV_FR g3)⟩
  · simp only [e1, e2, pu_bnd, ↓reduceIte]; exact ⟨_, _, _, _, _, rfl, rfl, n, m, h'⟩
theorem st_empties (N : Nat) (hN : 66 < N) : ST_empties N INV := by
  intro cv T B v a1 hI
  obtain ⟨n, m, h⟩ := hI
  have h' := inv_kv h (LF.refl _) (KV_0 v)
  obtain ⟨hP, hS, hT, hIm, hWa, hWb, hRf, hH, hU, hRd, hG, hE⟩ := id h'
  have hm := PR_m hP
  have hW := way_std hP hWa hRf
  unfold f_X11_empties f_X12_empties
  rcases hasS hP a1 with ⟨t, ht, rfl, e1, e2⟩ | ⟨e1, e2⟩
  · obtain ⟨L', Tr', C', w, g1, g2, g3, g4, g5, g6⟩ := todayR N hN (cv 0) (cv 10) (cv 11) hP hS hW (by rw [hRf.1.1]; decide)
    have e3 : (3 : Int32) + nI t = nI (3 + t) := nI_add 3 t
    have e4 := (g5 t ht).2.2.1
    rw [show 3 * 1 + t = 3 + t by omega] at e4
    simp only [e1, e2, pu_bnd, n10, ↓reduceIte, g1, g2, pu_gin (show t < 3 by omega) (show 3 < 2 ^ 31 by omega), nI_clamp (show t < 2 ^ 31 by omega), e3, pu_gin (show 3 + t < 69 by omega) (show 69 < 2 ^ 31 by omega), nI_clamp (show 3 + t < 2 ^ 31 by omega), ← e4, ← (PR_sE g6).1]
    exact ⟨_, _, _, _, _, rfl, rfl, n, m, inv_kv h' g4 (KV_FR g3)⟩
  · simp only [e1, e2, pu_bnd, ↓reduceIte]; exact ⟨_, _, _, _, _, rfl, rfl, n, m, h'⟩
theorem st_catchUp (N : Nat) (hN : 66 < N) : ST_catchUp N INV := by
  intro cv T B v a1 hI
  obtain ⟨n, m, h⟩ := hI
  have h' := inv_kv h (LF.refl _) (KV_0 v)
  have hP0 : PR n m (cv 6) (cv 7) (si v 0 0) := h'.1
  have hm := PR_m hP0
  unfold f_X11_catchUp f_X12_catchUp
  rcases hasS hP0 a1 with ⟨t, ht, rfl, e1, e2⟩ | ⟨e1, e2⟩
  · simp only [e1, e2, pu_bnd, n10, ↓reduceIte]
    by_cases ht0 : t = 0
    · subst ht0
      simp only [if_pos (show nI 0 < 1 from by decide), if_pos (show nI 0 = 0 from rfl)]
      exact ⟨_, _, _, _, _, rfl, rfl, n, m, h'⟩
    · simp only [if_neg (show ¬ nI (t) < (1 : Int32) from nI_nlt (a := t) (b := 1) (by omega) (by omega)), if_neg (show ¬ nI (t) = (0 : Int32) from fun h => absurd ((nI_eq (a := t) (b := 0) (by omega) (by omega)).mp h) (by omega))]
      obtain ⟨u, rfl⟩ : ∃ u, t = u + 1 := ⟨t - 1, by omega⟩
      obtain ⟨r, r', k1, k2, k3⟩ := itr2 (A := fun q : Int32 × VV × VV × VV => f_X11_catchUp_s20 N (cv 0) (cv 6) q.2.1 (cv 8) q.2.2.1 q.2.2.2 (cv 12) (nI (u + 1)) q.1) (B := fun q : Int32 × VV => f_X12_catchUp_s21 N q.2 (nI (u + 1)) q.1) (fun k s s' => ∃ i, k = 4 - i ∧ i ≤ 4 ∧ s.1 = nI i ∧ s'.1 = nI i ∧ LF (cv 7) s.2.1 ∧ KV (si v 0 0) s'.2) (fun r r' => r.1 = r'.1 ∧ LF (cv 7) r.2.1 ∧ KV (si v 0 0) r'.2) (by
        intro k s s' hR
        obtain ⟨s1, L, Tr, C⟩ := s
        obtain ⟨t1, w⟩ := s'
        obtain ⟨i, hk, hi, f1, f2, f3, f4⟩ := hR
        simp only at f1 f2 f3 f4
        subst f1 f2
        simp only
        unfold f_X11_catchUp_s20 f_X12_catchUp_s21
        rcases Nat.lt_or_ge i 4 with hlt | hge
        · obtain ⟨hP, hS, hT, hIm, hWa, hWb, hRf, hH, hU, hRd, hG, hE⟩ := inv_kv h' f3 f4
          have hW := way_std hP hWa hRf
          obtain ⟨Tr1, w1, p1, p2, p3, p4, p5, p6, p7, p8⟩ := try1 N hN Tr hP hS hW
          have c1 : carR True 1 (sr Tr1 3 u (nI i)) (sr w1 42 (3 * 1 + u) (nI i)) := ⟨p6.1.1, p6.1.2.1, p6.1.2.2.1, p6.1.2.2.2.1, p6.1.2.2.2.2.1, p6.1.2.2.2.2.2.1, RE_upd p6.1.2.2.2.2.2.2.1 rfl rfl, p6.1.2.2.2.2.2.2.2⟩
          have hF1 : FR 1 w1 (sr w1 42 (3 * 1 + u) (nI i)) := FR_3 42 u (nI i) (by omega) (by omega) (by omega)
          have sg1 : sgS (sr Tr1 3 u (nI i)) := fun q hq => by
            show ∃ s : Nat, s ≤ 3 ∧ upd (Tr1.2.1 3) u (nI i) q = nI s
            by_cases e : q = u
            · subst e; rw [pk_us]; exact ⟨i, by omega, rfl⟩
            · rw [pk_un e]; exact p6.2.2.1 q hq
          obtain ⟨C', L', S', w', g1, g2, g3, g4, g5, g6, g7, g8, g9, g10⟩ := day1 (aw := True) N hN C (PR_FR p4 (LF.refl L) hF1) (way_FR p5 hF1) (fun e => absurd (show w.1 50 = 2 from by rw [← p8]; exact e) (by rw [hRf.1.1]; decide)) c1 sg1
          have x1 : nI (u + 1) - 1 = nI u := nI_pred u
          have x2 : (3 : Int32) + nI (u + 1) - 1 = nI (3 * 1 + u) := by
            rw [show (3 : Int32) + nI (u + 1) = nI (3 + u + 1) from nI_add 3 (u + 1), nI_pred]
          simp only [if_neg (show ¬ (3 : Int32) < nI (i) from nI_nlt (a := 3) (b := i) (by omega) (by omega)), p1, p2, pu_bnd, x1, x2, pu_gin (show u < 3 by omega) (show 3 < 2 ^ 31 by omega), nI_clamp (show u < 2 ^ 31 by omega), pu_gin (show 3 * 1 + u < 69 by omega) (show 69 < 2 ^ 31 by omega), nI_clamp (show 3 * 1 + u < 2 ^ 31 by omega), g1, g2, lateInR g9 ht hm, pu_gin (show u + 1 < 3 by omega) (show 3 < 2 ^ 31 by omega), nI_clamp (show u + 1 < 2 ^ 31 by omega)]
          have hkv : KV (si v 0 0) w' := f4.trans ((KV_FR p3).trans ((KV_FR hF1).trans (KV_FR g3)))
          by_cases e : S'.2.1 14 (u + 1) = 0
          · right; simp only [if_pos e, pu_inrO]; exact ⟨_, _, rfl, rfl, rfl, f3.trans g4, hkv⟩
          · left; simp only [if_neg e]; exact ⟨4 - (i + 1), _, _, by omega, rfl, rfl, i + 1, rfl, by omega, nI_1 i, nI_1 i, f3.trans g4, hkv⟩
        · right
          have : i = 4 := by omega
          subst this
          simp only [if_pos (show (3 : Int32) < nI 4 from by decide), pu_inrO]
          exact ⟨_, _, rfl, rfl, rfl, f3, f4⟩) N 4 (0, cv 7, cv 10, cv 11) (0, si v 0 0) (by omega) ⟨0, rfl, by omega, rfl, rfl, LF.refl _, KV.refl _⟩
      obtain ⟨r1, L', Tr', C'⟩ := r
      obtain ⟨r2, w⟩ := r'
      obtain ⟨q1, q2, q3⟩ := k3
      simp only at q1 q2 q3
      subst q1
      exact ⟨_, _, _, _, _, k1, k2, n, m, inv_kv h' q2 q3⟩
  · have : (if a1 < 1 then some ((-1 : Int32), cv 7, cv 10, cv 11) else bnd (f_X6_hasSitting (cv 6) a1) (fun q1 => if q1 = 0 then some ((-1), cv 7, cv 10, cv 11) else itr (fun q : Int32 × VV × VV × VV => f_X11_catchUp_s20 N (cv 0) (cv 6) q.2.1 (cv 8) q.2.2.1 q.2.2.2 (cv 12) a1 q.1) N (0, cv 7, cv 10, cv 11))) = some (-1, cv 7, cv 10, cv 11) := by
      simp only [e1, pu_bnd, ↓reduceIte, ite_self]
    rw [this, e2, pu_bnd, if_pos rfl]
    exact ⟨_, _, _, _, _, rfl, rfl, n, m, h'⟩
