theorem itr2x {σ ρ σ' ρ' : Type} {A : σ → Option (σ ⊕ ρ)} {B : σ' → Option (σ' ⊕ ρ')} (R : Nat → σ → σ' → Prop) (Q : ρ → ρ' → Prop) (c : Nat)
    (h : ∀ m s s', R m s s' → (∃ m' t t', m' < m ∧ A s = some (.inl t) ∧ B s' = some (.inl t') ∧ R m' t t') ∨ (∃ r, A s = some (.inr r) ∧ ∀ n, c < n → ∃ r', itr B n s' = some r' ∧ Q r r')) :
    ∀ n n' m s s', m < n → m + c < n' → R m s s' → ∃ r r', itr A n s = some r ∧ itr B n' s' = some r' ∧ Q r r' := by
  intro n
  induction n with
  | zero => intro n' m s s' hm; omega
  | succ n ih =>
    intro n' m s s' hm hm' hR
    rcases h m s s' hR with ⟨m', t, t', hlt, ha, hb, hR'⟩ | ⟨r, ha, hq⟩
    · obtain ⟨k, rfl⟩ : ∃ k, n' = k + 1 := ⟨n' - 1, by omega⟩
      obtain ⟨r, r', h1, h2, h3⟩ := ih k m' t t' (by omega) (by omega) hR'
      exact ⟨r, r', by unfold itr; rw [ha]; exact h1, by unfold itr; rw [hb]; exact h2, h3⟩
    · obtain ⟨r', h1, h2⟩ := hq n' (by omega)
      exact ⟨r, r', by unfold itr; rw [ha], h1, h2⟩
/-- is any sitting late? -/
theorem anyR (N : Nat) (hN : 66 < N) {n m : Nat} {P L S w : VV} (hP : PR n m P L w) (hd : dayR 1 m S w) : ∃ z, f_X8_isAnyLate N S (P.1 3) = some z ∧ f_X12_isAnyLate N w = some z := by
  have hm := PR_m hP
  unfold f_X8_isAnyLate f_X12_isAnyLate
  obtain ⟨r, r', h1, h2, h3⟩ := itr2 (A := fun q : Int32 => f_X8_isAnyLate_s2 N S (P.1 3) q) (B := fun q : Int32 => f_X12_isAnyLate_s2 N w q) (fun k s s' => ∃ i, k = m - i ∧ i ≤ m ∧ s = nI i ∧ s' = nI i) (fun r r' => r = r') (by
    intro k s s' hR
    obtain ⟨i, hk, hi, rfl, rfl⟩ := hR
    unfold f_X8_isAnyLate_s2 f_X12_isAnyLate_s2
    rw [PR_P3 hP, PR_v2 hP]
    rcases Nat.lt_or_ge i m with hlt | hge
    · simp only [if_neg (nI_ge hlt (show m < 2 ^ 31 by omega)), if_neg (show ¬ (3 : Int32) ≤ nI (i) from nI_ge (a := i) (b := 3) (by omega) (by omega)), pu_gin (show i < 3 by omega) (show 3 < 2 ^ 31 by omega), nI_clamp (show i < 2 ^ 31 by omega), lateInR hd hlt hm, pu_bnd]
      by_cases e : S.2.1 14 i ≤ 0
      · left; simp only [if_pos e]; exact ⟨m - (i + 1), _, _, by omega, rfl, rfl, i + 1, rfl, hlt, nI_1 i, nI_1 i⟩
      · right; simp only [if_neg e, pu_inrO]; exact ⟨_, _, rfl, rfl, rfl⟩
    · right
      have : i = m := by omega
      subst this
      simp only [if_pos (nI_le (Nat.le_refl i) (show i < 2 ^ 31 by omega)), pu_inrO]
      exact ⟨_, _, rfl, rfl, rfl⟩) N m 0 0 (by omega) ⟨0, rfl, by omega, rfl, rfl⟩
  subst h3
  exact ⟨r, h1, h2⟩
theorem resetR (N : Nat) (hN : 66 < N) (Y : VV) : ∃ Y', f_X10_reset N Y = some Y' ∧ waR Y' 0 := by
  unfold f_X10_reset
  refine itr1 (fun k (s : Int32 × VV) => ∃ i, k = 3 - i ∧ i ≤ 3 ∧ s.1 = nI i ∧ (s.2.1 0 = 0 ∧ s.2.1 1 = 0 ∧ s.2.1 2 = 0 ∧ s.2.1 3 = -1 ∧ s.2.1 4 = -1 ∧ s.2.1 5 = 0 ∧ s.2.1 6 = 0) ∧ ∀ u, u < i → s.2.2.1 7 u = 0) (fun w => waR w 0) ?_ N 3 _ (by omega) ⟨0, rfl, by omega, rfl, ⟨rfl, rfl, rfl, rfl, rfl, rfl, rfl⟩, fun u hu => by omega⟩
  intro k s hR
  obtain ⟨s1, w⟩ := s
  obtain ⟨i, hk, hi, h1, h2, h3⟩ := hR
  simp only at h1 h2 h3
  subst h1
  simp only
  unfold f_X10_reset_s37
  rcases Nat.lt_or_ge i 3 with hlt | hge
  · left
    rw [if_neg (show ¬ (3 : Int32) ≤ nI (i) from nI_ge (a := i) (b := 3) (by omega) (by omega)), pu_gin (show i < 3 by omega) (show 3 < 2 ^ 31 by omega), nI_clamp (show i < 2 ^ 31 by omega), nI_1]
    refine ⟨3 - (i + 1), _, by omega, rfl, i + 1, rfl, by omega, rfl, h2, fun u hu => ?_⟩
    show upd (w.2.1 7) i 0 u = 0
    by_cases e : u = i
    · subst e; rw [pk_us]
    · rw [pk_un e]; exact h3 u (by omega)
  · right
    have : i = 3 := by omega
    subst this
    rw [if_pos (show (3 : Int32) ≤ nI 3 from by decide), pu_inrO]
    exact ⟨_, rfl, h2, h3⟩
/-- hands told otherwise -/
theorem way_hands {n m hh : Nat} {P L Y v : VV} (hP : PR n m P L v) (hw : waR Y 0) (hr : rfR v) (h1 : 1 ≤ hh) (h9 : hh ≤ 9) : wayR n P (si Y 6 (nI hh)) (si v 52 (nI hh)) 0 := by
  obtain ⟨g1, g2, g3, g4⟩ := way_std hP hw hr
  refine ⟨g1, g2, ⟨nI hh, nI_ne0 (by omega) (by omega), ?_, ?_⟩, g4⟩
  · unfold f_X12_handsOf
    show (if nI hh ≤ 0 then _ else some (nI hh)) = _
    rw [if_neg (nI_nle (by omega) (by omega))]
  · unfold f_X0_laying
    show (if nI hh ≤ 0 then _ else f_X0_laying_b20 P (si Y 6 (nI hh)) (nI hh)) = _
    rw [if_neg (nI_nle (by omega) (by omega)), lay_b h1 h9, (PR_sE hP).2.2.1]; rfl
theorem rf_52 {v w : VV} (h : rfR v) (hk : KV (si v 52 0) (si w 52 0)) : rfR (si w 52 0) := rf_KV (v := si v 52 0) ⟨⟨h.1.1, h.1.2.1, rfl, h.1.2.2.2⟩, h.2⟩ hk
theorem st_hands (N : Nat) (hN : 66 < N) : ST_hands N INV := by
  intro cv T B v hI
  obtain ⟨n, m, h⟩ := hI
  have h' := inv_kv h (LF.refl _) (KV_0 v)
  obtain ⟨hP0, hS0, _, _, _, _, hRf0, _⟩ := id h'
  have hm := PR_m hP0
  have h52 : si (si v 0 0) 52 0 = si v 0 0 := by
    have : (si v 0 0).1 52 = 0 := hRf0.1.2.2.1
    show ((fun q => if q = 52 then (0 : Int32) else (si v 0 0).1 q), v.2) = si v 0 0
    refine Prod.ext ?_ rfl
    funext q
    show (if q = 52 then (0 : Int32) else (si v 0 0).1 q) = (si v 0 0).1 q
    by_cases e : q = 52
    · rw [if_pos e, e, this]
    · rw [if_neg e]
  -- one try on both sides
  have one : ∀ (L Tr C Wo w : VV) (hh : Nat), 1 ≤ hh → hh ≤ 9 → LF (cv 7) L → KV (si v 0 0) (si w 52 0) → ∃ z Y' L' Tr' C' w', f_X10_reset N Wo = some Y' ∧ f_X11_tryToday N (cv 0) (cv 6) L (cv 8) Tr C (si Y' 6 (nI hh)) = some (L', Tr', C') ∧ f_X8_isAnyLate N Tr' ((cv 6).1 3) = some z ∧ f_X12_today N (si w 52 (nI hh)) = some w' ∧ f_X12_isAnyLate N w' = some z ∧ LF (cv 7) L' ∧ KV (si v 0 0) (si w' 52 0) := by
    intro L Tr C Wo w hh h1 h9 hL hk
    obtain ⟨hP, hS, _, _, _, _, hRf, _⟩ := inv_kv h' hL hk
    obtain ⟨Y', y1, y2⟩ := resetR N hN Wo
    have hW : wayR n (cv 6) (si Y' 6 (nI hh)) (si w 52 (nI hh)) 0 := by
      have := way_hands hP y2 hRf h1 h9
      rw [show si (si w 52 0) 52 (nI hh) = si w 52 (nI hh) from by
        refine Prod.ext ?_ rfl
        funext q
        show (if q = 52 then nI hh else if q = 52 then (0 : Int32) else w.1 q) = if q = 52 then nI hh else w.1 q
        by_cases e : q = 52
        · rw [if_pos e, if_pos e]
        · rw [if_neg e, if_neg e, if_neg e]] at this
      exact this
    have hP' : PR n m (cv 6) L (si w 52 (nI hh)) := hP
    have hS' : stR n m 0 (cv 8) (si w 52 (nI hh)) := hS
    obtain ⟨L', Tr', C', w', g1, g2, g3, g4, g5, g6⟩ := todayR N hN (cv 0) Tr C hP' hS' hW (show ¬ w.1 50 = 2 by rw [show w.1 50 = 0 from hRf.1.1]; decide)
    obtain ⟨z, z1, z2⟩ := anyR N hN g6 g5
    refine ⟨z, Y', L', Tr', C', w', y1, g1, z1, g2, z2, hL.trans g4, hk.trans ?_⟩
    have := KV_FR g3
    refine ⟨fun k hk => ?_, this.2.1, this.2.2⟩
    show (if k = 52 then (0 : Int32) else w'.1 k) = if k = 52 then 0 else w.1 k
    by_cases e : k = 52
    · rw [if_pos e, if_pos e]
    · rw [if_neg e, if_neg e, this.1 k hk]; show (if k = 52 then _ else w.1 k) = _; rw [if_neg e]
  -- what each number of hands gives
  obtain ⟨Z, hZ⟩ : ∃ Z : Nat → Int32, ∀ hh, 1 ≤ hh → hh ≤ 9 → ∀ L' Tr' C' Y', f_X10_reset N (cv 14) = some Y' → f_X11_tryToday N (cv 0) (cv 6) (cv 7) (cv 8) (cv 10) (cv 11) (si Y' 6 (nI hh)) = some (L', Tr', C') → f_X8_isAnyLate N Tr' ((cv 6).1 3) = some (Z hh) := by
    refine ⟨fun hh => if hx : 1 ≤ hh ∧ hh ≤ 9 then Classical.choose (one (cv 7) (cv 10) (cv 11) (cv 14) (si v 0 0) hh hx.1 hx.2 (LF.refl _) (by rw [h52]; exact KV.refl _)) else 0, fun hh h1 h9 L' Tr' C' Y' e1 e2 => ?_⟩
    simp only [dif_pos (show 1 ≤ hh ∧ hh ≤ 9 from ⟨h1, h9⟩)]
    obtain ⟨Y2, L2, Tr2, C2, w2, f1, f2, f3, _⟩ := Classical.choose_spec (one (cv 7) (cv 10) (cv 11) (cv 14) (si v 0 0) hh h1 h9 (LF.refl _) (by rw [h52]; exact KV.refl _))
    rw [e1] at f1
    injection f1 with f1
    subst f1
    rw [e2] at f2
    injection f2 with f2
    injection f2 with f2a f2b
    injection f2b with f2b f2c
    subst f2b
    exact f3
  have oneZ : ∀ (L Tr C Wo w : VV) (hh : Nat), 1 ≤ hh → hh ≤ 9 → LF (cv 7) L → KV (si v 0 0) (si w 52 0) → (∃ Y' L' Tr' C', f_X10_reset N Wo = some Y' ∧ f_X11_tryToday N (cv 0) (cv 6) L (cv 8) Tr C (si Y' 6 (nI hh)) = some (L', Tr', C') ∧ f_X8_isAnyLate N Tr' ((cv 6).1 3) = some (Z hh) ∧ LF (cv 7) L') ∧ ∃ w', f_X12_today N (si w 52 (nI hh)) = some w' ∧ f_X12_isAnyLate N w' = some (Z hh) ∧ KV (si v 0 0) (si w' 52 0) := by
    intro L Tr C Wo w hh h1 h9 hL hk
    -- the class's first state with this w: the reference's bit is Z
    obtain ⟨z, Y', L', Tr', C', w', a1, a2, a3, a4, a5, a6, a7⟩ := one (cv 7) (cv 10) (cv 11) (cv 14) w hh h1 h9 (LF.refl _) hk
    have hz := hZ hh h1 h9 L' Tr' C' Y' a1 a2
    rw [a3] at hz
    injection hz with hz
    subst hz
    obtain ⟨z2, Y2, L2, Tr2, C2, w2, b1, b2, b3, b4, b5, b6, b7⟩ := one L Tr C Wo w hh h1 h9 hL hk
    rw [a4] at b4
    injection b4 with b4
    subst b4
    rw [a5] at b5
    injection b5 with b5
    rw [← b5] at b3
    exact ⟨⟨Y2, L2, Tr2, C2, b1, b2, b3, b6⟩, w', a4, a5, a7⟩
  unfold f_X11_hands f_X12_hands
  -- the class: from 1 up
  obtain ⟨r, k1, k2⟩ := itr1 (A := fun q : Int32 × VV × VV × VV × VV => f_X11_hands_s2 N (cv 0) (cv 6) q.2.1 (cv 8) q.2.2.1 q.2.2.2.1 q.2.2.2.2 q.1) (fun k s => ∃ i, k = 10 - i ∧ 1 ≤ i ∧ i ≤ 10 ∧ s.1 = nI i ∧ LF (cv 7) s.2.1 ∧ ∀ j, 1 ≤ j → j < i → ¬ Z j = 0) (fun r => LF (cv 7) r.2.1 ∧ ((r.1 = -2 ∧ ∀ j, 1 ≤ j → j ≤ 9 → ¬ Z j = 0) ∨ ∃ i, 1 ≤ i ∧ i ≤ 9 ∧ r.1 = nI i ∧ Z i = 0 ∧ ∀ j, 1 ≤ j → j < i → ¬ Z j = 0)) (by
    intro k s hR
    obtain ⟨s1, L, Tr, C, Wo⟩ := s
    obtain ⟨i, hk, hi1, hi, f1, f2, f3⟩ := hR
    simp only at f1 f2
    subst f1
    simp only
    unfold f_X11_hands_s2
    rcases Nat.lt_or_ge i 10 with hlt | hge
    · obtain ⟨⟨Y', L', Tr', C', g1, g2, g3, g4⟩, _⟩ := oneZ L Tr C Wo (si v 0 0) i hi1 (by omega) f2 (by rw [h52]; exact KV.refl _)
      simp only [if_neg (show ¬ (9 : Int32) < nI (i) from nI_nlt (a := 9) (b := i) (by omega) (by omega)), g1, g2, g3, pu_bnd]
      by_cases e : Z i = 0
      · right; simp only [if_pos e, pu_inrO]; exact ⟨_, rfl, g4, Or.inr ⟨i, hi1, by omega, rfl, e, f3⟩⟩
      · left; simp only [if_neg e]
        refine ⟨10 - (i + 1), _, by omega, rfl, i + 1, rfl, by omega, by omega, nI_1 i, g4, fun j h1 h2 => ?_⟩
        by_cases ej : j = i
        · subst ej; exact e
        · exact f3 j h1 (by omega)
    · right
      have : i = 10 := by omega
      subst this
      simp only [if_pos (show (9 : Int32) < nI 10 from by decide), pu_inrO]
      exact ⟨_, rfl, f2, Or.inl ⟨rfl, fun j h1 h2 => f3 j h1 (by omega)⟩⟩) N 9 (1, cv 7, cv 10, cv 11, cv 14) (by omega) ⟨1, rfl, by omega, by omega, rfl, LF.refl _, fun j h1 h2 => by omega⟩
  -- the reference: from 9 down
  obtain ⟨r', j1, j2⟩ := itr1 (A := fun q : Int32 × Int32 × VV => f_X12_hands_s11 N q.2.2 q.1 q.2.1) (fun k s => ∃ i, k = i ∧ i ≤ 9 ∧ s.2.1 = nI i ∧ KV (si v 0 0) (si s.2.2 52 0) ∧ ((s.1 = -2 ∧ ∀ j, i < j → j ≤ 9 → ¬ Z j = 0) ∨ ∃ x, i < x ∧ x ≤ 9 ∧ s.1 = nI x ∧ Z x = 0 ∧ ∀ j, i < j → j < x → ¬ Z j = 0)) (fun r => KV (si v 0 0) r.2 ∧ ((r.1 = -2 ∧ ∀ j, 0 < j → j ≤ 9 → ¬ Z j = 0) ∨ ∃ x, 0 < x ∧ x ≤ 9 ∧ r.1 = nI x ∧ Z x = 0 ∧ ∀ j, 0 < j → j < x → ¬ Z j = 0)) (by
    intro k s hR
    obtain ⟨s1, s2, w⟩ := s
    obtain ⟨i, hk, hi, f1, f2, f3⟩ := hR
    simp only at f1 f2 f3
    subst f1
    simp only
    unfold f_X12_hands_s11 f_X12_hands_b34
    rcases Nat.eq_zero_or_pos i with hz | hp
    · right
      subst hz
      rw [if_pos (show nI 0 < 1 from by decide), pu_inrO]
      exact ⟨_, rfl, f2, f3⟩
    · left
      obtain ⟨_, w', g1, g2, g3⟩ := oneZ (cv 7) (cv 10) (cv 11) (cv 14) w i hp hi (LF.refl _) f2
      obtain ⟨j, rfl⟩ : ∃ j, i = j + 1 := ⟨i - 1, by omega⟩
      simp only [if_neg (show ¬ nI (j + 1) < (1 : Int32) from nI_nlt (a := j + 1) (b := 1) (by omega) (by omega)), g1, g2, pu_bnd, pk_m1]
      by_cases e : Z (j + 1) = 0
      · simp only [if_pos e]
        exact ⟨j, _, by omega, rfl, j, rfl, by omega, rfl, g3, Or.inr ⟨j + 1, by omega, hi, rfl, e, fun q h1 h2 => by omega⟩⟩
      · simp only [if_neg e]
        refine ⟨j, _, by omega, rfl, j, rfl, by omega, rfl, g3, ?_⟩
        rcases f3 with ⟨p1, p2⟩ | ⟨x, p1, p2, p3, p4, p5⟩
        · refine Or.inl ⟨p1, fun q h1 h2 => ?_⟩
          by_cases eq : q = j + 1
          · subst eq; exact e
          · exact p2 q (by omega) h2
        · refine Or.inr ⟨x, by omega, p2, p3, p4, fun q h1 h2 => ?_⟩
          by_cases eq : q = j + 1
          · subst eq; exact e
          · exact p5 q (by omega) h2) N 9 (-2, 9, si v 0 0) (by omega) ⟨9, rfl, by omega, rfl, by rw [h52]; exact KV.refl _, Or.inl ⟨rfl, fun j h1 h2 => by omega⟩⟩
  obtain ⟨r1, L', Tr', C', W'⟩ := r
  obtain ⟨r2, w⟩ := r'
  simp only at k2 j2
  have hr : r1 = r2 := by
    rcases k2.2 with ⟨p1, p2⟩ | ⟨i, p1, p2, p3, p4, p5⟩
    · rcases j2.2 with ⟨q1, q2⟩ | ⟨x, q1, q2, q3, q4, q5⟩
      · rw [p1, q1]
      · exact absurd q4 (p2 x (by omega) q2)
    · rcases j2.2 with ⟨q1, q2⟩ | ⟨x, q1, q2, q3, q4, q5⟩
      · exact absurd p4 (q2 i (by omega) p2)
      · rcases Nat.lt_trichotomy i x with hlt | heq | hgt
        · exact absurd p4 (q5 i (by omega) hlt)
        · rw [p3, q3, heq]
        · exact absurd q4 (p5 x (by omega) hgt)
  subst hr
  exact ⟨_, _, _, _, _, _, k1, j1, n, m, inv_kv h' k2.1 j2.1⟩
/-- sittings told later -/
theorem way_shift {n m : Nat} {P L Y v : VV} (hP : PR n m P L v) (hw : waR Y 0) (hr : rfR v) {Y' v' : VV} (h1 : Y'.1 = Y.1) (h2 : v'.1 50 = v.1 50 ∧ v'.1 51 = v.1 51 ∧ v'.1 52 = v.1 52 ∧ v'.1 53 = v.1 53) (h3 : v'.2.1 3 = v.2.1 3) (h4 : ∀ u, u < 3 → Y'.2.1 7 u = v'.2.1 54 u) : wayR n P Y' v' 0 := by
  obtain ⟨g1, g2, g3, g4⟩ := way_std hP hw hr
  refine ⟨?_, ?_, ?_, h4⟩
  · unfold linR at *; rw [h1, h2.2.2.2]; exact g1
  · rw [h1, h2.1, h2.2.1]; exact g2
  · unfold layR f_X12_handsOf f_X0_laying f_X0_laying_b20 at *
    rw [h1, h2.1, h2.2.2.1, h3]; exact g3
def kv54 (v w : VV) : Prop := ∃ f, KV v (sw w 54 f)
