/-! level -/
theorem PR_wi {n m p t : Nat} {P L v : VV} (h : PR n m P L v) (hp : p < n) (ht : t < 3) : v.2.1 6 (3 * p + t) = nI (wiP P p t) ∧ wiP P p t ≤ 9 := by
  obtain ⟨w, hw, e⟩ := (PR_tB h hp).2.1 t ht
  have e' : wiP P p t = w := by unfold wiP; rw [(PR_tR h hp).2.2.1 t ht, e, nI_clamp (by omega)]
  rw [e']; exact ⟨e, hw⟩
def chA (c : Int32) (o : Option (Nat × Nat)) : Int32 := match o with
  | none => c
  | some q => nI q.1
def chB (c : Int32) (o : Option (Nat × Nat)) : Int32 := match o with
  | none => c
  | some q => nI q.2
theorem chF_spec {w d : Nat → Nat} : ∀ k, (chF w d k = none → ∀ j, j < k → ¬ d j ≤ w j) ∧ ∀ q, chF w d k = some q → q.1 < k ∧ d q.1 ≤ w q.1 ∧ q.2 = w q.1 - d q.1 ∧ (∀ j, j < q.1 → d j ≤ w j → w j - d j < q.2) ∧ ∀ j, j < k → d j ≤ w j → w j - d j ≤ q.2 := by
  intro k
  induction k with
  | zero => exact ⟨fun _ j hj => by omega, fun q h => by cases h⟩
  | succ k ih =>
    obtain ⟨ih1, ih2⟩ := ih
    have un : chF w d (k + 1) = match chF w d k with
      | none => if d k ≤ w k then some (k, w k - d k) else none
      | some q => if d k ≤ w k ∧ q.2 < w k - d k then some (k, w k - d k) else some q := rfl
    cases hc : chF w d k with
    | none =>
      rw [hc] at un
      simp only at un
      have a := ih1 hc
      by_cases c : d k ≤ w k
      · rw [if_pos c] at un
        refine ⟨fun h => (by rw [un] at h; cases h), fun q h => ?_⟩
        rw [un] at h
        injection h with h
        subst h
        refine ⟨Nat.lt_succ_self k, c, rfl, fun j hj hd => absurd hd (a j hj), fun j hj hd => ?_⟩
        rcases Nat.lt_or_ge j k with h2 | h2
        · exact absurd hd (a j h2)
        · have : j = k := by omega
          subst this; exact Nat.le_refl _
      · rw [if_neg c] at un
        refine ⟨fun _ j hj => ?_, fun q h => (by rw [un] at h; cases h)⟩
        rcases Nat.lt_or_ge j k with h2 | h2
        · exact a j h2
        · have : j = k := by omega
          subst this; exact c
    | some q0 =>
      rw [hc] at un
      simp only at un
      obtain ⟨b1, b2, b3, b4, b5⟩ := ih2 q0 hc
      by_cases c : d k ≤ w k ∧ q0.2 < w k - d k
      · rw [if_pos c] at un
        refine ⟨fun h => (by rw [un] at h; cases h), fun q h => ?_⟩
        rw [un] at h
        injection h with h
        subst h
        refine ⟨Nat.lt_succ_self k, c.1, rfl, fun j hj hd => Nat.lt_of_le_of_lt (b5 j hj hd) c.2, fun j hj hd => ?_⟩
        rcases Nat.lt_or_ge j k with h2 | h2
        · exact Nat.le_of_lt (Nat.lt_of_le_of_lt (b5 j h2 hd) c.2)
        · have : j = k := by omega
          subst this; exact Nat.le_refl _
      · rw [if_neg c] at un
        refine ⟨fun h => (by rw [un] at h; cases h), fun q h => ?_⟩
        rw [un] at h
        injection h with h
        subst h
        refine ⟨by omega, b2, b3, b4, fun j hj hd => ?_⟩
        rcases Nat.lt_or_ge j k with h2 | h2
        · exact b5 j h2 hd
        · have : j = k := by omega
          subst this
          rcases Nat.lt_or_ge q0.2 (w j - d j) with h3 | h3
          · exact absurd ⟨hd, h3⟩ c
          · exact h3
/-- who chooses a sitting chooses it still if others get dearer -/
theorem chT_mono {w d q : Nat → Nat} {m t : Nat} (hq : ∀ j, j < m → d j ≤ q j) (ht : q t = d t) (h : chT w d m t = true) : chT w q m t = true := by
  unfold chT at h ⊢
  cases hc : chF w d m with
  | none => rw [hc] at h; exact absurd h Bool.false_ne_true
  | some r =>
    rw [hc] at h
    simp only at h
    have er : r.1 = t := by simpa using h
    obtain ⟨a1, a2, a3, a4, a5⟩ := (chF_spec m).2 r hc
    rw [er] at a1 a2 a3 a4
    cases hc2 : chF w q m with
    | none => exact absurd (show q t ≤ w t by rw [ht]; exact a2) ((chF_spec m).1 hc2 t a1)
    | some r2 =>
      obtain ⟨b1, b2, b3, b4, b5⟩ := (chF_spec m).2 r2 hc2
      simp only
      have : r2.1 = t := by
        have x1 := b5 t a1 (by rw [ht]; exact a2)
        rw [ht] at x1
        have x2 := hq r2.1 b1
        rcases Nat.lt_trichotomy r2.1 t with h1 | h1 | h1
        · have := a4 r2.1 h1 (by omega); omega
        · exact h1
        · have y := b4 t h1 (by rw [ht]; exact a2)
          rw [ht] at y
          have := a5 r2.1 b1 (by omega); omega
      rw [this]; simp
theorem chT_lt {w d : Nat → Nat} {m t : Nat} (h : chT w d m t = true) : t < m := by
  unfold chT at h
  cases hc : chF w d m with
  | none => rw [hc] at h; exact absurd h Bool.false_ne_true
  | some r =>
    rw [hc] at h
    simp only at h
    have er : r.1 = t := by simpa using h
    rw [← er]; exact ((chF_spec m).2 r hc).1
theorem lv_mono {w : Nat → Nat → Nat} {sz d q : Nat → Nat} {m t : Nat} (hq : ∀ j, j < m → d j ≤ q j) (ht : q t = d t) : ∀ n, lvN w sz d m t n ≤ lvN w sz q m t n := by
  intro n
  induction n with
  | zero => exact Nat.le_refl _
  | succ n ih =>
    show lvN w sz d m t n + (if chT (w n) d m t = true then sz n else 0) ≤ lvN w sz q m t n + (if chT (w n) q m t = true then sz n else 0)
    by_cases c : chT (w n) d m t = true
    · rw [if_pos c, if_pos (chT_mono hq ht c)]; omega
    · rw [if_neg c]; omega
theorem lv_le {w : Nat → Nat → Nat} {sz d : Nat → Nat} {m t : Nat} : ∀ n, (∀ p, p < n → sz p ≤ 9) → lvN w sz d m t n ≤ 9 * n := by
  intro n
  induction n with
  | zero => intro _; exact Nat.le_refl _
  | succ n ih =>
    intro hs
    have a := ih (fun p hp => hs p (by omega))
    have b := hs n (by omega)
    show lvN w sz d m t n + (if chT (w n) d m t = true then sz n else 0) ≤ 9 * (n + 1)
    split <;> omega
theorem lv_out {w : Nat → Nat → Nat} {sz d : Nat → Nat} {m t : Nat} (ht : m ≤ t) : ∀ n, lvN w sz d m t n = 0 := by
  intro n
  induction n with
  | zero => rfl
  | succ n ih =>
    show lvN w sz d m t n + (if chT (w n) d m t = true then sz n else 0) = 0
    rw [ih, if_neg (fun h => absurd (chT_lt h) (by omega))]
theorem ch_one {w d : Nat → Nat} {m t : Nat} : chT w d m t = true ↔ chA (-1) (chF w d m) = nI t ∧ t < m ∧ m < 2 ^ 31 ∨ (chT w d m t = true ∧ ¬ m < 2 ^ 31) := by
  constructor
  · intro h
    by_cases hm : m < 2 ^ 31
    · left
      refine ⟨?_, chT_lt h, hm⟩
      unfold chT at h
      unfold chA
      cases hc : chF w d m with
      | none => rw [hc] at h; exact absurd h Bool.false_ne_true
      | some r =>
        rw [hc] at h
        simp only at h ⊢
        have er : r.1 = t := by simpa using h
        rw [er]
    · exact Or.inr ⟨h, hm⟩
  · intro h
    rcases h with ⟨h, ht, hm⟩ | h
    · unfold chA at h
      unfold chT
      cases hc : chF w d m with
      | none =>
        rw [hc] at h
        simp only at h
        exact absurd (show nI t < 0 by rw [← h]; decide) (nI_pos (by omega))
      | some r =>
        rw [hc] at h
        simp only at h ⊢
        have := ((chF_spec m).2 r hc).1
        have : r.1 = t := (nI_eq (by omega) (by omega)).mp h
        rw [this]; simp
    · exact h.1
theorem gain_le {w d g : Nat} (hw : w ≤ 9) (hd : d ≤ 9) (hg : g ≤ 9) : nI w - nI d ≤ nI g ↔ ¬ (d ≤ w ∧ g < w - d) := by
  rw [Int32.le_iff_toInt_le, pk_sub_toInt (by omega) (by omega), nI_toInt (by omega)]
  omega
theorem gain_m1 {w d : Nat} (hw : w ≤ 9) (hd : d ≤ 9) : nI w - nI d ≤ -1 ↔ ¬ d ≤ w := by
  rw [Int32.le_iff_toInt_le, pk_sub_toInt (by omega) (by omega), show (-1 : Int32).toInt = -1 from by decide]
  omega
theorem gain_0 {w d : Nat} (hw : w ≤ 9) (hd : d ≤ 9) : nI w - nI d < 0 ↔ ¬ d ≤ w := by
  rw [Int32.lt_iff_toInt_lt, pk_sub_toInt (by omega) (by omega), show (0 : Int32).toInt = 0 from by decide]
  omega
theorem chosenC (N : Nat) (hN : 66 < N) {n m p : Nat} {P L v E : VV} {d : Nat → Nat} (h : PR n m P L v) (hp : p < n) (hd : ∀ t, t < m → d t ≤ 9 ∧ E.2.1 0 t = nI (d t)) : f_X6_chosen_L N P E (nI p) = some (chA (-1) (chF (wiP P p) d m)) := by
  have hn := PR_n h
  have hm := PR_m h
  unfold f_X6_chosen_L
  refine itrF (A := fun q : Int32 × Int32 × Int32 => f_X6_chosen_L_s8 N P E (nI p) q.1 q.2.1 q.2.2) m (fun i => (chA (-1) (chF (wiP P p) d i), chB (-1) (chF (wiP P p) d i), nI i)) _ ?_ ?_ N 0 (by omega) (by omega)
  · intro i hi
    show f_X6_chosen_L_s8 N P E (nI p) (chA (-1) (chF (wiP P p) d i)) (chB (-1) (chF (wiP P p) d i)) (nI i) = _
    unfold f_X6_chosen_L_s8 f_X6_chosen_L_b54
    obtain ⟨w1, w2⟩ := PR_wi h hp (show i < 3 by omega)
    obtain ⟨d1, d2⟩ := hd i hi
    rw [PR_P3 h, if_neg (nI_ge hi (by omega)), if_neg (show ¬ (3 : Int32) ≤ nI (i) from nI_ge (a := i) (b := 3) (by omega) (by omega)), traW h hp (by omega), pu_bnd, pu_gin (show i < 3 by omega) (show 3 < 2 ^ 31 by omega), nI_clamp (show i < 2 ^ 31 by omega), nI_1, w1, d2]
    have un : chF (wiP P p) d (i + 1) = match chF (wiP P p) d i with
      | none => if d i ≤ wiP P p i then some (i, wiP P p i - d i) else none
      | some q => if d i ≤ wiP P p i ∧ q.2 < wiP P p i - d i then some (i, wiP P p i - d i) else some q := rfl
    show _ = some (Sum.inl (chA (-1) (chF (wiP P p) d (i + 1)), chB (-1) (chF (wiP P p) d (i + 1)), nI (i + 1)))
    rw [un]
    cases hc : chF (wiP P p) d i with
    | none =>
      show (if nI (wiP P p i) - nI (d i) ≤ -1 then _ else _) = _
      by_cases c : d i ≤ wiP P p i
      · rw [if_neg (fun h => (gain_m1 w2 d1).mp h c)]
        simp only [if_pos c, pk_sub c]
        rfl
      · rw [if_pos ((gain_m1 w2 d1).mpr c)]
        simp only [if_neg c]
    | some q =>
      obtain ⟨a1, a2, a3, _⟩ := (chF_spec i).2 q hc
      have b := (PR_wi h hp (show q.1 < 3 by omega)).2
      have hq : q.2 ≤ 9 := by omega
      show (if nI (wiP P p i) - nI (d i) ≤ nI q.2 then _ else _) = _
      by_cases c : d i ≤ wiP P p i ∧ q.2 < wiP P p i - d i
      · rw [if_neg (fun h => (gain_le w2 d1 hq).mp h c)]
        simp only [if_pos c, pk_sub c.1]
        rfl
      · rw [if_pos ((gain_le w2 d1 hq).mpr c)]
        simp only [if_neg c]
  · show f_X6_chosen_L_s8 N P E (nI p) _ _ (nI m) = _
    unfold f_X6_chosen_L_s8
    rw [PR_P3 h, if_pos (nI_le (Nat.le_refl m) (by omega)), pu_inrO]
theorem choiceX (N : Nat) (hN : 66 < N) {n m p : Nat} {P L v : VV} {d : Nat → Nat} (h : PR n m P L v) (hp : p < n) (hd : ∀ t, t < m → d t ≤ 9 ∧ v.2.1 62 t = nI (d t)) : f_X12_choiceOf N v (nI p) = some (chA (-2) (chF (wiP P p) d m)) := by
  have hn := PR_n h
  have hm := PR_m h
  unfold f_X12_choiceOf
  refine itrF (A := fun q : Int32 × Int32 × Int32 => f_X12_choiceOf_s8 N v (nI p) q.1 q.2.1 q.2.2) m (fun i => (chA (-2) (chF (wiP P p) d i), chB 0 (chF (wiP P p) d i), nI i)) _ ?_ ?_ N 0 (by omega) (by omega)
  · intro i hi
    show f_X12_choiceOf_s8 N v (nI p) (chA (-2) (chF (wiP P p) d i)) (chB 0 (chF (wiP P p) d i)) (nI i) = _
    unfold f_X12_choiceOf_s8 f_X12_choiceOf_b58 f_X12_choiceOf_b64
    obtain ⟨w1, w2⟩ := PR_wi h hp (show i < 3 by omega)
    obtain ⟨d1, d2⟩ := hd i hi
    rw [PR_v2 h, if_neg (nI_ge hi (by omega)), pu_3, pu_gin (show 3 * p + i < 48 by omega) (show 48 < 2 ^ 31 by omega), pu_gin (show i < 3 by omega) (show 3 < 2 ^ 31 by omega), nI_clamp (show 3 * p + i < 2 ^ 31 by omega), nI_clamp (show i < 2 ^ 31 by omega), nI_1, w1, d2]
    have un : chF (wiP P p) d (i + 1) = match chF (wiP P p) d i with
      | none => if d i ≤ wiP P p i then some (i, wiP P p i - d i) else none
      | some q => if d i ≤ wiP P p i ∧ q.2 < wiP P p i - d i then some (i, wiP P p i - d i) else some q := rfl
    show _ = some (Sum.inl (chA (-2) (chF (wiP P p) d (i + 1)), chB 0 (chF (wiP P p) d (i + 1)), nI (i + 1)))
    rw [un]
    cases hc : chF (wiP P p) d i with
    | none =>
      by_cases c : d i ≤ wiP P p i
      · rw [if_neg (fun h => (gain_0 w2 d1).mp h c), if_pos (show chA (-2) none < 0 by show (-2 : Int32) < 0; decide)]
        simp only [if_pos c, pk_sub c]
        rfl
      · rw [if_pos ((gain_0 w2 d1).mpr c)]
        simp only [if_neg c]
    | some q =>
      obtain ⟨a1, a2, a3, _⟩ := (chF_spec i).2 q hc
      have b := (PR_wi h hp (show q.1 < 3 by omega)).2
      have hq : q.2 ≤ 9 := by omega
      by_cases c : d i ≤ wiP P p i ∧ q.2 < wiP P p i - d i
      · rw [if_neg (fun h => (gain_0 w2 d1).mp h c.1), if_neg (show ¬ chA (-2) (some q) < 0 from nI_pos (by omega)), if_pos (show chB 0 (some q) < nI (wiP P p i) - nI (d i) from Int32.not_le.mp (fun h => (gain_le w2 d1 hq).mp h c))]
        simp only [if_pos c, pk_sub c.1]
        rfl
      · simp only [if_neg c]
        rw [if_neg (show ¬ chA (-2) (some q) < 0 from nI_pos (by omega)), if_neg (show ¬ chB 0 (some q) < nI (wiP P p i) - nI (d i) from Int32.not_lt.mpr ((gain_le w2 d1 hq).mpr c)), ite_self]
  · show f_X12_choiceOf_s8 N v (nI p) _ _ (nI m) = _
    unfold f_X12_choiceOf_s8
    rw [PR_v2 h, if_pos (nI_le (Nat.le_refl m) (by omega)), pu_inrO]
/-- the class: is a sitting too full? -/
theorem tooFullR (N : Nat) (hN : 66 < N) {n m seats : Nat} {P L v E : VV} {d : Nat → Nat} (h : PR n m P L v) (hs : P.2.1 6 0 = nI seats) (hs9 : seats ≤ 99) (hd : ∀ t, t < m → d t ≤ 9 ∧ E.2.1 0 t = nI (d t)) :
    ∃ r E', f_X4_tooFull N E P = some (r, E') ∧ E'.1 = E.1 ∧ E'.2.1 0 = E.2.1 0 ∧ ((r = -1 ∧ isLv n m (wiP P) (szP P) seats d) ∨ ∃ t, t < m ∧ r = nI t ∧ seats < lvN (wiP P) (szP P) d m t n) := by
  have hn := PR_n h
  have hm := PR_m h
  have hsz : ∀ p, p < n → szP P p ≤ 9 := fun p hp => (PR_sz h hp).2.2
  unfold f_X4_tooFull
  -- the last loop
  have last : ∀ E1 : VV, (∀ t, t < 3 → E1.2.1 1 t = nI (lvN (wiP P) (szP P) d m t n)) → ∃ r, itr (fun q : Int32 × VV => f_X4_tooFull_s72 N q.2 P q.1) N (0, E1) = some r ∧ r.2 = E1 ∧ ((r.1 = -1 ∧ isLv n m (wiP P) (szP P) seats d) ∨ ∃ t, t < m ∧ r.1 = nI t ∧ seats < lvN (wiP P) (szP P) d m t n) := by
    intro E1 hE1
    refine itr1 (A := fun q : Int32 × VV => f_X4_tooFull_s72 N q.2 P q.1) (fun x (y : Int32 × VV) => ∃ j, x = 3 - j ∧ j ≤ 3 ∧ y = (nI j, E1) ∧ ∀ t, t < j → lvN (wiP P) (szP P) d m t n ≤ seats) (fun r => r.2 = E1 ∧ ((r.1 = -1 ∧ isLv n m (wiP P) (szP P) seats d) ∨ ∃ t, t < m ∧ r.1 = nI t ∧ seats < lvN (wiP P) (szP P) d m t n)) ?_ N 3 (0, E1) (by omega) ⟨0, rfl, by omega, rfl, fun t ht => by omega⟩
    intro x y hR
    obtain ⟨j, hx, hj, rfl, f1⟩ := hR
    simp only
    unfold f_X4_tooFull_s72
    rcases Nat.lt_or_ge j 3 with hlt | hge
    · have hl := lv_le (w := wiP P) (d := d) (m := m) (t := j) n hsz
      rw [if_neg (show ¬ (3 : Int32) ≤ nI (j) from nI_ge (a := j) (b := 3) (by omega) (by omega)), pu_gin (show j < 3 by omega) (show 3 < 2 ^ 31 by omega), nI_clamp (show j < 2 ^ 31 by omega), hE1 j hlt, hs, nI_1]
      by_cases c : lvN (wiP P) (szP P) d m j n ≤ seats
      · left
        rw [if_pos (nI_le c (by omega))]
        refine ⟨3 - (j + 1), _, by omega, rfl, j + 1, rfl, by omega, rfl, fun t ht => ?_⟩
        by_cases e : t = j
        · rw [e]; exact c
        · exact f1 t (by omega)
      · right
        rw [if_neg (nI_ge (by omega) (by omega)), pu_inrO]
        have hjm : j < m := by
          rcases Nat.lt_or_ge j m with h1 | h1
          · exact h1
          · rw [lv_out h1] at c; omega
        exact ⟨_, rfl, rfl, Or.inr ⟨j, hjm, rfl, by omega⟩⟩
    · right
      have : j = 3 := by omega
      subst this
      rw [if_pos (show (3 : Int32) ≤ nI 3 from by decide), pu_inrO]
      exact ⟨_, rfl, rfl, Or.inl ⟨rfl, fun t ht => f1 t (by omega)⟩⟩
  -- the parties choose
  have mid : ∀ E1 : VV, E1.1 = E.1 → E1.2.1 0 = E.2.1 0 → (∀ t, t < 3 → E1.2.1 1 t = 0) → ∃ r, itr (fun q : Int32 × VV => f_X4_tooFull_s22 N q.2 P q.1) N (0, E1) = some r ∧ r.2.1 = E.1 ∧ r.2.2.1 0 = E.2.1 0 ∧ ((r.1 = -1 ∧ isLv n m (wiP P) (szP P) seats d) ∨ ∃ t, t < m ∧ r.1 = nI t ∧ seats < lvN (wiP P) (szP P) d m t n) := by
    intro E1 a1 a2 a3
    refine itr1 (A := fun q : Int32 × VV => f_X4_tooFull_s22 N q.2 P q.1) (fun x (y : Int32 × VV) => ∃ p, x = n - p ∧ p ≤ n ∧ y.1 = nI p ∧ y.2.1 = E.1 ∧ y.2.2.1 0 = E.2.1 0 ∧ ∀ t, t < 3 → y.2.2.1 1 t = nI (lvN (wiP P) (szP P) d m t p)) (fun r => r.2.1 = E.1 ∧ r.2.2.1 0 = E.2.1 0 ∧ ((r.1 = -1 ∧ isLv n m (wiP P) (szP P) seats d) ∨ ∃ t, t < m ∧ r.1 = nI t ∧ seats < lvN (wiP P) (szP P) d m t n)) ?_ N n (0, E1) (by omega) ⟨0, rfl, by omega, rfl, a1, a2, a3⟩
    intro x y hR
    obtain ⟨y1, E2⟩ := y
    obtain ⟨p, hx, hp, f1, f2, f3, f4⟩ := hR
    simp only at f1 f2 f3 f4
    subst f1
    simp only
    unfold f_X4_tooFull_s22 f_X4_tooFull_b64
    rw [PR_P0 h]
    rcases Nat.lt_or_ge p n with hlt | hge
    · left
      have hch := chosenC (E := E2) (d := d) N hN h hlt (fun t ht => ⟨(hd t ht).1, by rw [f3]; exact (hd t ht).2⟩)
      have step : ∀ t, lvN (wiP P) (szP P) d m t (p + 1) = lvN (wiP P) (szP P) d m t p + (if chT (wiP P p) d m t = true then szP P p else 0) := fun t => rfl
      rw [if_neg (nI_ge hlt (by omega)), hch, pu_bnd, nI_1]
      cases hc : chF (wiP P p) d m with
      | none =>
        have no : ∀ t, ¬ chT (wiP P p) d m t = true := fun t h => by unfold chT at h; rw [hc] at h; exact absurd h Bool.false_ne_true
        rw [if_pos (show chA (-1) none < 0 by show (-1 : Int32) < 0; decide)]
        exact ⟨n - (p + 1), _, by omega, rfl, p + 1, rfl, hlt, rfl, f2, f3, fun t ht => by rw [step, if_neg (no t), Nat.add_zero]; exact f4 t ht⟩
      | some q =>
        have hq := ((chF_spec m).2 q hc).1
        have yes : ∀ t, chT (wiP P p) d m t = true ↔ t = q.1 := fun t => by
          unfold chT; rw [hc]
          constructor
          · intro h; have : q.1 = t := by simpa using h
            exact this.symm
          · intro h; rw [h]; simp
        have eA : chA (-1) (some q) = nI q.1 := rfl
        rw [eA, if_neg (nI_pos (by omega)), if_neg (show ¬ (3 : Int32) ≤ nI (q.1) from nI_ge (a := q.1) (b := 3) (by omega) (by omega)), pu_gin (show q.1 < 3 by omega) (show 3 < 2 ^ 31 by omega), tra0 h hlt, pu_bnd, pu_gin (show q.1 < 3 by omega) (show 3 < 2 ^ 31 by omega), nI_clamp (show q.1 < 2 ^ 31 by omega), f4 q.1 (by omega), (PR_sz h hlt).1, nI_add]
        refine ⟨n - (p + 1), _, by omega, rfl, p + 1, rfl, hlt, rfl, f2, f3, fun t ht => ?_⟩
        show upd (E2.2.1 1) q.1 _ t = _
        rw [pu_upd, step]
        by_cases e : t = q.1
        · rw [if_pos e, if_pos ((yes t).mpr e), e]
        · rw [if_neg e, if_neg (fun h => e ((yes t).mp h)), Nat.add_zero]; exact f4 t ht
    · right
      have : p = n := by omega
      subst this
      obtain ⟨r, l1, l2, l3⟩ := last E2 f4
      rw [if_pos (nI_le (Nat.le_refl p) (by omega)), l1, pu_inrO]
      exact ⟨r, rfl, by rw [l2]; exact f2, by rw [l2]; exact f3, l3⟩
  obtain ⟨r, r1, r2⟩ := itr1 (A := fun q : Int32 × VV => f_X4_tooFull_s2 N q.2 P q.1) (fun x (y : Int32 × VV) => ∃ j, x = 3 - j ∧ j ≤ 3 ∧ y.1 = nI j ∧ y.2.1 = E.1 ∧ y.2.2.1 0 = E.2.1 0 ∧ ∀ t, t < j → y.2.2.1 1 t = 0) (fun r => r.2.1 = E.1 ∧ r.2.2.1 0 = E.2.1 0 ∧ ((r.1 = -1 ∧ isLv n m (wiP P) (szP P) seats d) ∨ ∃ t, t < m ∧ r.1 = nI t ∧ seats < lvN (wiP P) (szP P) d m t n)) (by
    intro x y hR
    obtain ⟨y1, E2⟩ := y
    obtain ⟨j, hx, hj, f1, f2, f3, f4⟩ := hR
    simp only at f1 f2 f3 f4
    subst f1
    simp only
    unfold f_X4_tooFull_s2
    rcases Nat.lt_or_ge j 3 with hlt | hge
    · left
      rw [if_neg (show ¬ (3 : Int32) ≤ nI (j) from nI_ge (a := j) (b := 3) (by omega) (by omega)), pu_gin (show j < 3 by omega) (show 3 < 2 ^ 31 by omega), nI_clamp (show j < 2 ^ 31 by omega), nI_1]
      refine ⟨3 - (j + 1), _, by omega, rfl, j + 1, rfl, by omega, rfl, f2, f3, fun t ht => ?_⟩
      show upd (E2.2.1 1) j 0 t = 0
      rw [pu_upd]
      by_cases e : t = j
      · rw [if_pos e]
      · rw [if_neg e]; exact f4 t (by omega)
    · right
      have : j = 3 := by omega
      subst this
      obtain ⟨r, q1, q2⟩ := mid E2 f2 f3 f4
      rw [if_pos (show (3 : Int32) ≤ nI 3 from by decide), q1, pu_inrO]
      exact ⟨r, rfl, q2⟩) N 3 (0, E) (by omega) ⟨0, rfl, by omega, rfl, rfl, rfl, fun t ht => by omega⟩
  obtain ⟨r, E'⟩ := r
  exact ⟨r, E', r1, r2⟩
theorem lv_findR (N : Nat) (hN : 66 < N) {n m seats : Nat} {P L v E : VV} (h : PR n m P L v) (hs : P.2.1 6 0 = nI seats) (hs9 : seats ≤ 99) : ∃ E', f_X4_find N E P = some E' ∧ ((E'.1 2 = 0 ∧ ∀ d : Nat → Nat, (∀ t, t < m → d t ≤ 9) → ¬ isLv n m (wiP P) (szP P) seats d) ∨ (E'.1 2 = 1 ∧ ∃ d : Nat → Nat, (∀ t, t < m → d t ≤ 9 ∧ E'.2.1 0 t = nI (d t)) ∧ isLv n m (wiP P) (szP P) seats d ∧ ∀ d' : Nat → Nat, (∀ t, t < m → d' t ≤ 9) → isLv n m (wiP P) (szP P) seats d' → ∀ t, t < m → d t ≤ d' t)) := by
  have hm := PR_m h
  unfold f_X4_find
  refine itr1 (A := fun q : Int32 × VV => f_X4_find_s7 N q.2 P q.1) (fun x (y : Int32 × VV) => ∃ j, x = 3 - j ∧ j ≤ 3 ∧ y.1 = nI j ∧ y.2.1 2 = 0 ∧ ∀ t, t < j → y.2.2.1 0 t = 0) (fun E' => (E'.1 2 = 0 ∧ ∀ d : Nat → Nat, (∀ t, t < m → d t ≤ 9) → ¬ isLv n m (wiP P) (szP P) seats d) ∨ (E'.1 2 = 1 ∧ ∃ d : Nat → Nat, (∀ t, t < m → d t ≤ 9 ∧ E'.2.1 0 t = nI (d t)) ∧ isLv n m (wiP P) (szP P) seats d ∧ ∀ d' : Nat → Nat, (∀ t, t < m → d' t ≤ 9) → isLv n m (wiP P) (szP P) seats d' → ∀ t, t < m → d t ≤ d' t)) ?_ N 3 (0, si E 2 0) (by omega) ⟨0, rfl, by omega, rfl, rfl, fun t ht => by omega⟩
  intro x y hR
  obtain ⟨y1, E1⟩ := y
  obtain ⟨j, hx, hj, f1, f2, f3⟩ := hR
  simp only at f1 f2 f3
  subst f1
  simp only
  unfold f_X4_find_s7
  rcases Nat.lt_or_ge j 3 with hlt | hge
  · left
    rw [if_neg (show ¬ (3 : Int32) ≤ nI (j) from nI_ge (a := j) (b := 3) (by omega) (by omega)), pu_gin (show j < 3 by omega) (show 3 < 2 ^ 31 by omega), nI_clamp (show j < 2 ^ 31 by omega), nI_1]
    refine ⟨3 - (j + 1), _, by omega, rfl, j + 1, rfl, by omega, rfl, f2, fun t ht => ?_⟩
    show upd (E1.2.1 0) j 0 t = 0
    rw [pu_upd]
    by_cases e : t = j
    · rw [if_pos e]
    · rw [if_neg e]; exact f3 t (by omega)
  · right
    have : j = 3 := by omega
    subst this
    rw [if_pos (show (3 : Int32) ≤ nI 3 from by decide)]
    obtain ⟨r, r1, r2⟩ := itr1 (A := fun q : Int32 × VV => f_X4_find_s27 N q.2 P q.1) (fun x (y : Int32 × VV) => ∃ d : Nat → Nat, x = 27 - (d 0 + d 1 + d 2) ∧ y.1 = nI (d 0 + d 1 + d 2) ∧ y.2.1 2 = 0 ∧ (∀ t, d t ≤ 9) ∧ (∀ t, t < 3 → y.2.2.1 0 t = nI (d t)) ∧ ∀ d' : Nat → Nat, (∀ t, t < m → d' t ≤ 9) → isLv n m (wiP P) (szP P) seats d' → ∀ t, t < m → d t ≤ d' t) (fun E' => (E'.1 2 = 0 ∧ ∀ d : Nat → Nat, (∀ t, t < m → d t ≤ 9) → ¬ isLv n m (wiP P) (szP P) seats d) ∨ (E'.1 2 = 1 ∧ ∃ d : Nat → Nat, (∀ t, t < m → d t ≤ 9 ∧ E'.2.1 0 t = nI (d t)) ∧ isLv n m (wiP P) (szP P) seats d ∧ ∀ d' : Nat → Nat, (∀ t, t < m → d' t ≤ 9) → isLv n m (wiP P) (szP P) seats d' → ∀ t, t < m → d t ≤ d' t)) (by
      intro x y hR
      obtain ⟨y1, E2⟩ := y
      obtain ⟨d, hx, e1, e2, e3, e4, e5⟩ := hR
      simp only at e1 e2 e3 e4 e5
      subst e1
      simp only
      have d0 := e3 0
      have d1 := e3 1
      have d2 := e3 2
      obtain ⟨r, E3, t1, t2, t3, t4⟩ := tooFullR (E := E2) (d := d) N hN h hs hs9 (fun t ht => ⟨e3 t, e4 t (by omega)⟩)
      unfold f_X4_find_s27 f_X4_find_b48
      rw [if_neg (show ¬ (27 : Int32) < nI (d 0 + d 1 + d 2) from nI_nlt (a := 27) (by omega) (by omega)), t1, pu_bnd]
      rcases t4 with ⟨rfl, t5⟩ | ⟨t, ht, rfl, t5⟩
      · right
        rw [if_pos (show (-1 : Int32) < 0 from by decide), pu_inrO]
        exact ⟨_, rfl, Or.inr ⟨rfl, d, fun t ht => ⟨e3 t, by show E3.2.1 0 t = _; rw [t3]; exact e4 t (by omega)⟩, t5, e5⟩⟩
      · have lt1 : ∀ d' : Nat → Nat, (∀ t, t < m → d' t ≤ 9) → isLv n m (wiP P) (szP P) seats d' → d t < d' t := by
          intro d' h9 hl
          rcases Nat.lt_or_ge (d t) (d' t) with h1 | h1
          · exact h1
          · have e : d' t = d t := by have := e5 d' h9 hl t ht; omega
            have := lv_mono (w := wiP P) (sz := szP P) (e5 d' h9 hl) e n
            have := hl t ht
            omega
        have et : E3.2.1 0 t = nI (d t) := by rw [t3]; exact e4 t (by omega)
        dsimp only
        rw [if_neg (nI_pos (show t < 2 ^ 31 by omega)), if_pos (show nI (t) < (3 : Int32) from nI_lt (a := t) (b := 3) (by omega) (by omega)), pu_gin (show t < 3 by omega) (show 3 < 2 ^ 31 by omega), nI_clamp (show t < 2 ^ 31 by omega), et]
        have dt := e3 t
        rcases Nat.lt_or_ge (d t) 9 with h1 | h1
        · left
          rw [if_pos (show nI (d t) < (9 : Int32) from nI_lt (a := d t) (b := 9) (by omega) (by omega)), pu_gin (show t < 3 by omega) (show 3 < 2 ^ 31 by omega), pu_gin (show t < 3 by omega) (show 3 < 2 ^ 31 by omega), nI_1, nI_1]
          have t012 : t = 0 ∨ t = 1 ∨ t = 2 := by omega
          have esum : (fun u => if u = t then d u + 1 else d u) 0 + (fun u => if u = t then d u + 1 else d u) 1 + (fun u => if u = t then d u + 1 else d u) 2 = d 0 + d 1 + d 2 + 1 := by
            rcases t012 with rfl | rfl | rfl
            · show (if (0 : Nat) = 0 then d 0 + 1 else d 0) + (if (1 : Nat) = 0 then d 1 + 1 else d 1) + (if (2 : Nat) = 0 then d 2 + 1 else d 2) = _
              rw [if_pos rfl, if_neg (by omega), if_neg (by omega)]; omega
            · show (if (0 : Nat) = 1 then d 0 + 1 else d 0) + (if (1 : Nat) = 1 then d 1 + 1 else d 1) + (if (2 : Nat) = 1 then d 2 + 1 else d 2) = _
              rw [if_pos rfl, if_neg (by omega), if_neg (by omega)]; omega
            · show (if (0 : Nat) = 2 then d 0 + 1 else d 0) + (if (1 : Nat) = 2 then d 1 + 1 else d 1) + (if (2 : Nat) = 2 then d 2 + 1 else d 2) = _
              rw [if_pos rfl, if_neg (by omega), if_neg (by omega)]; omega
          have hsum : d 0 + d 1 + d 2 < 27 := by
            rcases t012 with rfl | rfl | rfl <;> omega
          refine ⟨27 - (d 0 + d 1 + d 2 + 1), _, by omega, rfl, fun u => if u = t then d u + 1 else d u, by rw [esum], by show nI (d 0 + d 1 + d 2 + 1) = _; rw [esum], by show E3.1 2 = 0; rw [t2]; exact e2, fun u => ?_, fun u hu => ?_, fun d' h9 hl u hu => ?_⟩
          · show (if u = t then d u + 1 else d u) ≤ 9
            by_cases e : u = t
            · rw [if_pos e, e]; omega
            · rw [if_neg e]; exact e3 u
          · show upd (E3.2.1 0) t (nI (d t + 1)) u = nI (if u = t then d u + 1 else d u)
            rw [pu_upd]
            by_cases e : u = t
            · rw [if_pos e, if_pos e, e]
            · rw [if_neg e, if_neg e, t3]; exact e4 u hu
          · show (if u = t then d u + 1 else d u) ≤ d' u
            by_cases e : u = t
            · rw [if_pos e, e]; exact lt1 d' h9 hl
            · rw [if_neg e]; exact e5 d' h9 hl u hu
        · right
          rw [if_neg (show ¬ nI (d t) < (9 : Int32) from nI_nlt (a := d t) (b := 9) (by omega) (by omega)), pu_inrO]
          refine ⟨_, rfl, Or.inl ⟨by rw [t2]; exact e2, fun d' h9 hl => ?_⟩⟩
          have := lt1 d' h9 hl
          have := h9 t ht
          omega) N 27 (0, E1) (by omega) ⟨fun _ => 0, rfl, rfl, f2, fun _ => Nat.zero_le 9, fun t ht => f3 t ht, fun _ _ _ _ _ => Nat.zero_le _⟩
    rw [r1, pu_inrO]
    exact ⟨_, rfl, r2⟩
/-- the reference: is it level? -/
theorem isLevelX (N : Nat) (hN : 66 < N) {n m seats : Nat} {P L v : VV} {d : Nat → Nat} (h : PR n m P L v) (hs : v.2.1 3 1 = nI seats) (hs9 : seats ≤ 99) (hd : ∀ t, t < m → d t ≤ 9 ∧ v.2.1 62 t = nI (d t)) : ∃ z, f_X12_isLevel N v = some z ∧ ((z = 1 ∧ isLv n m (wiP P) (szP P) seats d) ∨ (z = 0 ∧ ¬ isLv n m (wiP P) (szP P) seats d)) := by
  have hn := PR_n h
  have hm := PR_m h
  have hsz : ∀ p, p < n → szP P p ≤ 9 := fun p hp => (PR_sz h hp).2.2
  unfold f_X12_isLevel
  refine itr1 (A := fun q : Int32 => f_X12_isLevel_s2 N v q) (fun x y => ∃ t, x = m - t ∧ t ≤ m ∧ y = nI t ∧ ∀ u, u < t → lvN (wiP P) (szP P) d m u n ≤ seats) (fun z => (z = 1 ∧ isLv n m (wiP P) (szP P) seats d) ∨ (z = 0 ∧ ¬ isLv n m (wiP P) (szP P) seats d)) ?_ N m 0 (by omega) ⟨0, rfl, by omega, rfl, fun u hu => by omega⟩
  intro x y hR
  obtain ⟨t, hx, ht, rfl, f1⟩ := hR
  unfold f_X12_isLevel_s2
  rw [PR_v2 h]
  rcases Nat.lt_or_ge t m with hlt | hge
  · rw [if_neg (nI_ge hlt (by omega))]
    have hl := lv_le (w := wiP P) (d := d) (m := m) (t := t) n hsz
    have inn := itrF (A := fun q : Int32 × Int32 => f_X12_isLevel_s16 N v (nI t) q.1 q.2) n (fun p => (nI (lvN (wiP P) (szP P) d m t p), nI p)) (if lvN (wiP P) (szP P) d m t n ≤ seats then .inl (nI (t + 1)) else .inr 0) (by
      intro p hp
      show f_X12_isLevel_s16 N v (nI t) (nI (lvN (wiP P) (szP P) d m t p)) (nI p) = _
      unfold f_X12_isLevel_s16 f_X12_isLevel_b46
      rw [PR_v0 h, if_neg (nI_ge hp (by omega)), choiceX N hN h hp hd, pu_bnd, nI_1]
      show _ = some (Sum.inl (nI (lvN (wiP P) (szP P) d m t p + (if chT (wiP P p) d m t = true then szP P p else 0)), nI (p + 1)))
      cases hc : chF (wiP P p) d m with
      | none =>
        rw [if_neg (show ¬ chA (-2) none = nI t from fun e => nI_pos (show t < 2 ^ 31 by omega) (by rw [← e]; show (-2 : Int32) < 0; decide)), if_neg (fun hh => by unfold chT at hh; rw [hc] at hh; exact absurd hh Bool.false_ne_true), Int32.add_zero]; rfl
      | some q =>
        have hq := ((chF_spec m).2 q hc).1
        by_cases e : q.1 = t
        · rw [if_pos (show chA (-2) (some q) = nI t by show nI q.1 = nI t; rw [e]), pu_gin (show p < 16 by omega) (show 16 < 2 ^ 31 by omega), nI_clamp (show p < 2 ^ 31 by omega), (PR_sz h hp).1, nI_add, if_pos (by unfold chT; rw [hc]; simp [e])]
        · rw [if_neg (show ¬ chA (-2) (some q) = nI t from fun hh => e ((nI_eq (by omega) (by omega)).mp hh)), if_neg (fun hh => by unfold chT at hh; rw [hc] at hh; exact e (by simpa using hh)), Int32.add_zero]; rfl) (by
      show f_X12_isLevel_s16 N v (nI t) (nI (lvN (wiP P) (szP P) d m t n)) (nI n) = _
      unfold f_X12_isLevel_s16
      rw [PR_v0 h, if_pos (nI_le (Nat.le_refl n) (by omega)), hs, nI_1]
      by_cases c : lvN (wiP P) (szP P) d m t n ≤ seats
      · rw [if_pos (nI_le c (by omega)), if_pos c, pu_inrO]
      · rw [if_neg (nI_ge (by omega) (by omega)), if_neg c, pu_inrO, pu_inrO]) N 0 (by omega) (by omega)
    have inn' : itr (fun q : Int32 × Int32 => f_X12_isLevel_s16 N v (nI t) q.1 q.2) N (0, 0) = _ := inn
    rw [inn']
    by_cases c : lvN (wiP P) (szP P) d m t n ≤ seats
    · left
      rw [if_pos c]
      refine ⟨m - (t + 1), _, by omega, rfl, t + 1, rfl, hlt, rfl, fun u hu => ?_⟩
      by_cases e : u = t
      · rw [e]; exact c
      · exact f1 u (by omega)
    · right
      rw [if_neg c]
      exact ⟨_, rfl, Or.inr ⟨rfl, fun hl => c (hl t hlt)⟩⟩
  · right
    have : t = m := by omega
    subst this
    rw [if_pos (nI_le (Nat.le_refl t) (by omega)), pu_inrO]
    exact ⟨_, rfl, Or.inl ⟨rfl, f1⟩⟩
def dgt (m c t : Nat) : Nat := c / 10 ^ (m - 1 - t) % 10
def dsm (m c : Nat) : Nat := Sm (fun u => c / 10 ^ u % 10) m
theorem p10 {k : Nat} (h : k ≤ 3) : 10 ^ k ≤ 1000 := Nat.le_trans (Nat.pow_le_pow_right (by omega) h) (by decide)
theorem layR2 (N : Nat) (hN : 66 < N) {n m c : Nat} {P L v : VV} (h : PR n m P L v) (hc : c < 1000) : ∃ w, f_X12_layCode N v (nI c) = some (nI (dsm m c), w) ∧ KV v w ∧ ∀ t, t < m → w.2.1 62 t = nI (dgt m c t) := by
  have hm := PR_m h
  unfold f_X12_layCode
  rw [PR_v2 h]
  obtain ⟨r, r1, r2⟩ := itr1 (A := fun q : Int32 × Int32 × Int32 × VV => f_X12_layCode_s14 N q.2.2.2 q.1 q.2.1 q.2.2.1) (fun x y => ∃ i w, x = i ∧ i ≤ m ∧ y = (nI (c / 10 ^ (m - i)), nI (Sm (fun u => c / 10 ^ u % 10) (m - i)), nI i - 1, w) ∧ KV v w ∧ ∀ t, i ≤ t → t < m → w.2.1 62 t = nI (dgt m c t)) (fun r => ∃ w, r = (nI (dsm m c), w) ∧ KV v w ∧ ∀ t, t < m → w.2.1 62 t = nI (dgt m c t)) (by
    intro x y hR
    obtain ⟨i, w, rfl, hi, rfl, f1, f2⟩ := hR
    simp only
    unfold f_X12_layCode_s14
    rcases Nat.eq_zero_or_pos x with hz | hp
    · right
      subst hz
      rw [if_pos (show nI 0 - 1 < 0 from by decide), pu_inrO]
      exact ⟨_, rfl, w, rfl, f1, fun t ht => f2 t (by omega) ht⟩
    · left
      obtain ⟨i, rfl⟩ : ∃ i, x = i + 1 := ⟨x - 1, by omega⟩
      have hq : c / 10 ^ (m - (i + 1)) < 1000 := Nat.lt_of_le_of_lt (Nat.div_le_self _ _) hc
      have e10 : c / 10 ^ (m - (i + 1)) / 10 = c / 10 ^ (m - i) := by
        rw [Nat.div_div_eq_div_mul, show 10 ^ (m - (i + 1)) * 10 = 10 ^ (m - i) from by rw [← Nat.pow_succ]; congr 1; omega]
      have ed : dgt m c i = c / 10 ^ (m - (i + 1)) % 10 := by unfold dgt; rw [show m - 1 - i = m - (i + 1) by omega]
      rw [nI_pred, if_neg (nI_pos (show i < 2 ^ 31 by omega)), pu_gin (show i < 3 by omega) (show 3 < 2 ^ 31 by omega), nI_clamp (show i < 2 ^ 31 by omega), pu_gin (show i < 3 by omega) (show 3 < 2 ^ 31 by omega), pk_us, idx_m, show (10 : Int32) = nI 10 from rfl, pk_rem (by omega) (by omega) (by omega), pk_div (by omega) (by omega) (by omega), e10, nI_add, ← ed]
      have es : Sm (fun u => c / 10 ^ u % 10) (m - i) = Sm (fun u => c / 10 ^ u % 10) (m - (i + 1)) + dgt m c i := by
        rw [show m - i = m - (i + 1) + 1 by omega, ed]; rfl
      refine ⟨i, _, by omega, rfl, i, _, rfl, by omega, by rw [es], f1.trans (KV_sr 62 i _ (by omega) (by omega)), fun t ht ht' => ?_⟩
      show upd (w.2.1 62) i _ t = _
      rw [pu_upd]
      by_cases e : t = i
      · rw [if_pos e, e]
      · rw [if_neg e]; exact f2 t (by omega) ht') N m (nI c, 0, nI m - 1, v) (by omega) ⟨m, v, rfl, Nat.le_refl m, by rw [Nat.sub_self, Nat.pow_zero, Nat.div_one]; rfl, KV.refl v, fun t ht ht' => by omega⟩
  obtain ⟨w, rfl, g1, g2⟩ := r2
  exact ⟨w, r1, g1, g2⟩
theorem Sm_le {f g : Nat → Nat} : ∀ k, (∀ i, i < k → f i ≤ g i) → Sm f k ≤ Sm g k := by
  intro k
  induction k with
  | zero => intro _; exact Nat.le_refl _
  | succ k ih => intro h; have := ih (fun i hi => h i (by omega)); have := h k (by omega); show Sm f k + f k ≤ Sm g k + g k; omega
theorem Sm_eq {f g : Nat → Nat} : ∀ k, (∀ i, i < k → f i ≤ g i) → Sm g k ≤ Sm f k → ∀ i, i < k → f i = g i := by
  intro k
  induction k with
  | zero => intro _ _ i hi; omega
  | succ k ih =>
    intro h hs i hi
    have a := Sm_le k (fun i hi => h i (by omega))
    have b := h k (by omega)
    have hs' : Sm g k + g k ≤ Sm f k + f k := hs
    by_cases e : i = k
    · subst e; omega
    · exact ih (fun i hi => h i (by omega)) (by omega) i (by omega)
theorem code_of {m : Nat} (hm : m ≤ 3) (d : Nat → Nat) (hd : ∀ t, t < m → d t ≤ 9) : ∃ c, c < 10 ^ m ∧ ∀ u, u < m → c / 10 ^ u % 10 = d (m - 1 - u) := by
  have : m = 0 ∨ m = 1 ∨ m = 2 ∨ m = 3 := by omega
  rcases this with rfl | rfl | rfl | rfl
  · exact ⟨0, by decide, fun u hu => by omega⟩
  · have := hd 0 (by omega)
    refine ⟨d 0, by omega, fun u hu => ?_⟩
    have : u = 0 := by omega
    subst this
    show d 0 / 10 ^ 0 % 10 = d 0
    rw [Nat.pow_zero]; omega
  · have := hd 0 (by omega)
    have := hd 1 (by omega)
    refine ⟨10 * d 0 + d 1, by omega, fun u hu => ?_⟩
    have : u = 0 ∨ u = 1 := by omega
    rcases this with rfl | rfl
    · show (10 * d 0 + d 1) / 10 ^ 0 % 10 = d 1
      rw [Nat.pow_zero]; omega
    · show (10 * d 0 + d 1) / 10 ^ 1 % 10 = d 0
      rw [Nat.pow_one]; omega
  · have := hd 0 (by omega)
    have := hd 1 (by omega)
    have := hd 2 (by omega)
    refine ⟨100 * d 0 + 10 * d 1 + d 2, by omega, fun u hu => ?_⟩
    have : u = 0 ∨ u = 1 ∨ u = 2 := by omega
    rcases this with rfl | rfl | rfl
    · show (100 * d 0 + 10 * d 1 + d 2) / 10 ^ 0 % 10 = d 2
      rw [Nat.pow_zero]; omega
    · show (100 * d 0 + 10 * d 1 + d 2) / 10 ^ 1 % 10 = d 1
      rw [Nat.pow_one]; omega
    · show (100 * d 0 + 10 * d 1 + d 2) / 10 ^ 2 % 10 = d 0
      rw [show 10 ^ 2 = 100 from rfl]; omega
theorem lv_congr {w : Nat → Nat → Nat} {sz d d' : Nat → Nat} {n m seats : Nat} (h : ∀ t, t < m → d t = d' t) (hl : isLv n m w sz seats d) : isLv n m w sz seats d' := by
  intro t ht
  refine Nat.le_trans (lv_mono (d := d') (q := d) (fun j hj => by rw [h j hj]; exact Nat.le_refl _) (h t ht) n) (hl t ht)
theorem levelX (N : Nat) (hN : 2000 < N) {n m seats t : Nat} {X : VV} {T : Nat → Int32} {R P L S Im Wa Wb Z U D E v : VV} (h0 : INV0 n m X T R P L S Im Wa Wb Z U D E v) (ht : t < m) (hs : v.2.1 3 1 = nI seats) (hs9 : seats ≤ 99) (hv : v.1 0 = 0) :
    ∃ r w, itr (fun q : Int32 × Int32 × VV => f_X12_level_s19 N q.2.2 (nI t) q.1 q.2.1) N (1, 0, v) = some (r, w) ∧ KV v w ∧ ((r = -2 ∧ ∀ d : Nat → Nat, (∀ t, t < m → d t ≤ 9) → ¬ isLv n m (wiP P) (szP P) seats d) ∨ ∃ c, c < 10 ^ m ∧ r = nI (dgt m c t) ∧ isLv n m (wiP P) (szP P) seats (dgt m c) ∧ ∀ c', c' < 10 ^ m → isLv n m (wiP P) (szP P) seats (dgt m c') → dsm m c ≤ dsm m c') := by
  have hP := h0.1
  have hm := PR_m hP
  have dg9 : ∀ c u, dgt m c u ≤ 9 := fun c u => by unfold dgt; have := Nat.mod_lt (c / 10 ^ (m - 1 - u)) (show 0 < 10 by omega); omega
  have ds9 : ∀ c, dsm m c ≤ 27 := by
    intro c
    unfold dsm
    have : ∀ k, Sm (fun u => c / 10 ^ u % 10) k ≤ 9 * k := by
      intro k
      induction k with
      | zero => exact Nat.le_refl _
      | succ k ih =>
        have := Nat.mod_lt (c / 10 ^ k) (show 0 < 10 by omega)
        show Sm (fun u => c / 10 ^ u % 10) k + c / 10 ^ k % 10 ≤ 9 * (k + 1)
        omega
    have := this m; omega
  have h10 : 10 ^ m ≤ 1000 := p10 hm
  have e32 : ∀ w, KV v w → w.2.1 3 2 = nI m := fun w hw => by rw [hw.2.1 3 (by omega)]; exact PR_v2 hP
  -- the search over all codes
  have main : ∀ w, KV v w → ∃ r, itr (fun q : Int32 × Int32 × Int32 × VV => f_X12_level_s48 N q.2.2.2 (nI t) (nI (10 ^ m)) q.1 q.2.1 q.2.2.1) N (-1, 0, 0, w) = some r ∧ KV v r.2 ∧ ((r.1 = -2 ∧ ∀ d : Nat → Nat, (∀ t, t < m → d t ≤ 9) → ¬ isLv n m (wiP P) (szP P) seats d) ∨ ∃ c, c < 10 ^ m ∧ r.1 = nI (dgt m c t) ∧ isLv n m (wiP P) (szP P) seats (dgt m c) ∧ ∀ c', c' < 10 ^ m → isLv n m (wiP P) (szP P) seats (dgt m c') → dsm m c ≤ dsm m c') := by
    intro w hw
    refine itr1 (A := fun q : Int32 × Int32 × Int32 × VV => f_X12_level_s48 N q.2.2.2 (nI t) (nI (10 ^ m)) q.1 q.2.1 q.2.2.1) (fun x y => ∃ c, x = 10 ^ m - c ∧ c ≤ 10 ^ m ∧ y.2.2.1 = nI c ∧ KV v y.2.2.2 ∧ ((y.1 = -1 ∧ ∀ c', c' < c → ¬ isLv n m (wiP P) (szP P) seats (dgt m c')) ∨ ∃ b, b < c ∧ y.1 = nI b ∧ y.2.1 = nI (dsm m b) ∧ isLv n m (wiP P) (szP P) seats (dgt m b) ∧ ∀ c', c' < c → isLv n m (wiP P) (szP P) seats (dgt m c') → dsm m b ≤ dsm m c')) (fun r => KV v r.2 ∧ ((r.1 = -2 ∧ ∀ d : Nat → Nat, (∀ t, t < m → d t ≤ 9) → ¬ isLv n m (wiP P) (szP P) seats d) ∨ ∃ c, c < 10 ^ m ∧ r.1 = nI (dgt m c t) ∧ isLv n m (wiP P) (szP P) seats (dgt m c) ∧ ∀ c', c' < 10 ^ m → isLv n m (wiP P) (szP P) seats (dgt m c') → dsm m c ≤ dsm m c')) ?_ N (10 ^ m) (-1, 0, 0, w) (Nat.lt_of_le_of_lt h10 (by omega)) ⟨0, rfl, Nat.zero_le _, rfl, hw, Or.inl ⟨rfl, fun c' hc' => by omega⟩⟩
    intro x y hR
    obtain ⟨x3, x4, x5, w1⟩ := y
    obtain ⟨c, hx, hc, f1, f2, f3⟩ := hR
    simp only at f1 f2 f3
    subst f1
    simp only
    unfold f_X12_level_s48
    rcases Nat.lt_or_ge c (10 ^ m) with hlt | hge
    · left
      obtain ⟨w2, l1, l2, l3⟩ := layR2 (c := c) N (by omega) (PR_KV hP (LF.refl _) f2) (by omega)
      have kv2 := f2.trans l2
      obtain ⟨z, z1, z2⟩ := isLevelX (v := w2) (d := dgt m c) N (by omega) (PR_KV hP (LF.refl _) kv2) (by rw [kv2.2.1 3 (by omega)]; exact hs) hs9 (fun t ht => ⟨dg9 c t, l3 t ht⟩)
      rw [if_neg (nI_ge hlt (by omega)), l1, pu_bnd]
      dsimp only
      unfold f_X12_level_b74 f_X12_level_b91
      have cs : ∀ c', c' < c + 1 → c' = c ∨ c' < c := fun c' h => by omega
      rw [z1, pu_bnd, nI_1]
      rcases f3 with ⟨rfl, g2⟩ | ⟨b, g1, rfl, rfl, g4, g5⟩
      · rw [if_pos rfl]
        rcases z2 with ⟨rfl, z3⟩ | ⟨rfl, z3⟩
        · rw [if_neg (by decide)]
          refine ⟨10 ^ m - (c + 1), _, by omega, rfl, c + 1, rfl, hlt, rfl, kv2, Or.inr ⟨c, by omega, rfl, rfl, z3, fun c' hc' hl => ?_⟩⟩
          rcases cs c' hc' with e | e
          · rw [e]; exact Nat.le_refl _
          · exact absurd hl (g2 c' e)
        · rw [if_pos rfl]
          refine ⟨10 ^ m - (c + 1), _, by omega, rfl, c + 1, rfl, hlt, rfl, kv2, Or.inl ⟨rfl, fun c' hc' => ?_⟩⟩
          rcases cs c' hc' with e | e
          · rw [e]; exact z3
          · exact g2 c' e
      · have hb := ds9 b
        have hcs := ds9 c
        rw [if_neg (show ¬ nI b = -1 from fun e => nI_pos (show b < 2 ^ 31 by omega) (by rw [e]; decide))]
        by_cases cc : dsm m b ≤ dsm m c
        · rw [if_pos (nI_le cc (by omega))]
          refine ⟨10 ^ m - (c + 1), _, by omega, rfl, c + 1, rfl, hlt, rfl, kv2, Or.inr ⟨b, by omega, rfl, rfl, g4, fun c' hc' hl => ?_⟩⟩
          rcases cs c' hc' with e | e
          · rw [e]; exact cc
          · exact g5 c' e hl
        · rw [if_neg (nI_ge (by omega) (by omega))]
          rcases z2 with ⟨rfl, z3⟩ | ⟨rfl, z3⟩
          · rw [if_neg (by decide)]
            refine ⟨10 ^ m - (c + 1), _, by omega, rfl, c + 1, rfl, hlt, rfl, kv2, Or.inr ⟨c, by omega, rfl, rfl, z3, fun c' hc' hl => ?_⟩⟩
            rcases cs c' hc' with e | e
            · rw [e]; exact Nat.le_refl _
            · have := g5 c' e hl; omega
          · rw [if_pos rfl]
            refine ⟨10 ^ m - (c + 1), _, by omega, rfl, c + 1, rfl, hlt, rfl, kv2, Or.inr ⟨b, by omega, rfl, rfl, g4, fun c' hc' hl => ?_⟩⟩
            rcases cs c' hc' with e | e
            · rw [e] at hl; exact absurd hl z3
            · exact g5 c' e hl
    · right
      have ec : c = 10 ^ m := by omega
      subst ec
      rw [if_pos (nI_le (Nat.le_refl _) (by omega))]
      rcases f3 with ⟨rfl, g2⟩ | ⟨b, g1, rfl, rfl, g4, g5⟩
      · rw [if_pos rfl, pu_inrO]
        refine ⟨_, rfl, f2, Or.inl ⟨rfl, fun d hd hl => ?_⟩⟩
        obtain ⟨c, c1, c2⟩ := code_of hm d hd
        refine g2 c c1 (lv_congr (fun t ht => ?_) hl)
        unfold dgt
        rw [c2 (m - 1 - t) (by omega), show m - 1 - (m - 1 - t) = t by omega]
      · obtain ⟨w2, l1, l2, l3⟩ := layR2 (c := b) N (by omega) (PR_KV hP (LF.refl _) f2) (by omega)
        rw [if_neg (show ¬ nI b = -1 from fun e => nI_pos (show b < 2 ^ 31 by omega) (by rw [e]; decide)), l1, pu_bnd, pu_gin (show t < 3 by omega) (show 3 < 2 ^ 31 by omega), nI_clamp (show t < 2 ^ 31 by omega), pu_inrO]
        exact ⟨_, rfl, f2.trans l2, Or.inr ⟨b, g1, l3 t ht, g4, g5⟩⟩
  obtain ⟨r, r1, r2⟩ := main v (KV.refl v)
  have pre := itrF (A := fun q : Int32 × Int32 × VV => f_X12_level_s19 N q.2.2 (nI t) q.1 q.2.1) m (fun i => (nI (10 ^ i), nI i, v)) r (by
    intro i hi
    show f_X12_level_s19 N v (nI t) (nI (10 ^ i)) (nI i) = _
    unfold f_X12_level_s19
    rw [PR_v2 hP, if_neg (nI_ge hi (by omega)), nI_1, show (10 : Int32) = nI 10 from rfl, pk_mul, ← Nat.pow_succ]) (by
    show f_X12_level_s19 N v (nI t) (nI (10 ^ m)) (nI m) = _
    unfold f_X12_level_s19
    rw [PR_v2 hP, if_pos (nI_le (Nat.le_refl m) (by omega)), r1, pu_inrO]) N 0 (by omega) (by omega)
  obtain ⟨r, w⟩ := r
  exact ⟨r, w, pre, r2⟩
theorem st_level (N : Nat) (hN : 2000 < N) : ST_level N INV := by
  intro cv T B v a1 hI
  obtain ⟨n, m, h⟩ := hI
  have h' := inv_kv h (LF.refl _) (KV_0 v)
  obtain ⟨hP, hS, hT, hIm, hWa, hWb, hRf, hH, hU, hRd, hG, hE⟩ := id h'
  have hm := PR_m hP
  unfold f_X11_level f_X12_level
  rcases hasS hP a1 with ⟨t, ht, rfl, e1, e2⟩ | ⟨e1, e2⟩
  · obtain ⟨seats, hs1, hs9, hse⟩ := (PR_sF hP).1
    have hsP : (cv 6).2.1 6 0 = nI seats := by rw [(PR_sE hP).1]; exact hse
    obtain ⟨r, w, x1, x2, x3⟩ := levelX N hN h' ht hse hs9 rfl
    simp only [e1, e2, pu_bnd, n10, ↓reduceIte]
    have key : ∀ E' : VV, E'.1 3 = 1 → ((E'.1 2 = 0 ∧ ∀ d : Nat → Nat, (∀ t, t < m → d t ≤ 9) → ¬ isLv n m (wiP (cv 6)) (szP (cv 6)) seats d) ∨ (E'.1 2 = 1 ∧ ∃ d : Nat → Nat, (∀ t, t < m → d t ≤ 9 ∧ E'.2.1 0 t = nI (d t)) ∧ isLv n m (wiP (cv 6)) (szP (cv 6)) seats d ∧ ∀ d' : Nat → Nat, (∀ t, t < m → d' t ≤ 9) → isLv n m (wiP (cv 6)) (szP (cv 6)) seats d' → ∀ t, t < m → d t ≤ d' t)) → f_X4_priceOf_b17 N E' (cv 6) (nI t) = some (r, E') ∧ lvR n m (cv 6) E' := by
      intro E' h3 hh
      refine ⟨?_, Or.inr ⟨h3, seats, hsP, hs9, hh⟩⟩
      unfold f_X4_priceOf_b17
      rcases hh with ⟨a, b⟩ | ⟨a, d, b1, b2, b3⟩
      · rw [if_pos a]
        rcases x3 with ⟨rfl, _⟩ | ⟨c, c1, _, c3, _⟩
        · rfl
        · exact absurd c3 (b _ (fun u _ => by unfold dgt; have := Nat.mod_lt (c / 10 ^ (m - 1 - u)) (show 0 < 10 by omega); omega))
      · rw [if_neg (by rw [a]; decide), if_neg (nI_pos (show t < 2 ^ 31 by omega)), if_neg (show ¬ (3 : Int32) ≤ nI (t) from nI_ge (a := t) (b := 3) (by omega) (by omega)), pu_gin (show t < 3 by omega) (show 3 < 2 ^ 31 by omega), nI_clamp (show t < 2 ^ 31 by omega), (b1 t ht).2]
        rcases x3 with ⟨_, y⟩ | ⟨c, c1, c2, c3, c4⟩
        · exact absurd b2 (y d (fun u hu => (b1 u hu).1))
        · obtain ⟨c0, k1, k2⟩ := code_of hm d (fun u hu => (b1 u hu).1)
          have dg0 : ∀ u, u < m → dgt m c0 u = d u := fun u hu => by unfold dgt; rw [k2 (m - 1 - u) (by omega), show m - 1 - (m - 1 - u) = u by omega]
          have a1 := c4 c0 k1 (lv_congr (fun u hu => (dg0 u hu).symm) b2)
          have a2 : ∀ u, u < m → c0 / 10 ^ u % 10 ≤ c / 10 ^ u % 10 := by
            intro u hu
            rw [k2 u hu]
            have := b3 (dgt m c) (fun u _ => by unfold dgt; have := Nat.mod_lt (c / 10 ^ (m - 1 - u)) (show 0 < 10 by omega); omega) c3 (m - 1 - u) (by omega)
            unfold dgt at this
            rw [show m - 1 - (m - 1 - u) = u by omega] at this
            exact this
          have a3 := Sm_eq m a2 a1 (m - 1 - t) (by omega)
          rw [c2]
          have : d t = dgt m c t := by
            rw [← dg0 t ht]; exact a3
          rw [this]
    have fin : ∀ E' : VV, lvR n m (cv 6) E' → INV (uc cv 18 E') T B w := by
      intro E' hl
      obtain ⟨hP, hS, hT, hIm, hWa, hWb, hRf, hH, hU, hRd, hG, hE⟩ := inv_kv h' (LF.refl _) x2
      exact ⟨n, m, hP, hS, hT, hIm, hWa, hWb, hRf, hH, hU, hRd, hG, hl⟩
    unfold f_X4_priceOf
    by_cases c : (cv 18).1 3 = 0
    · obtain ⟨E', q1, q2⟩ := lv_findR (E := cv 18) N (by omega) hP hsP hs9
      obtain ⟨k1, k2⟩ := key (si E' 3 1) rfl q2
      rw [if_pos c, q1, pu_bnd, k1, pu_bnd]
      exact ⟨r, _, w, rfl, x1, fin _ k2⟩
    · rcases hE with b | ⟨b, s', c1, c2, c3⟩
      · exact absurd b c
      · have es : s' = seats := (nI_eq (by omega) (by omega)).mp (c1.symm.trans hsP)
        subst es
        obtain ⟨k1, k2⟩ := key (cv 18) b c3
        rw [if_neg c, k1, pu_bnd]
        exact ⟨r, _, w, rfl, x1, fin _ k2⟩
  · simp only [e1, e2, pu_bnd, ↓reduceIte]; exact ⟨_, _, _, rfl, rfl, n, m, h'⟩
