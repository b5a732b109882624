/-! text: from its first token to its last; what begins then -/
variable {N n cnt : Nat} {b : Nat → Nat} {K : VV} {E : Nat → Nat}
theorem end_view {k vl s w : Int32} (h : tokR k vl s w) : (k = 0 ∧ s = 4) ∨ (¬ k = 0 ∧ ¬ s = 4) := by
  rcases h with ⟨rfl, rfl⟩ | ⟨rfl, rfl⟩ | ⟨rfl, rfl, h⟩ | ⟨rfl, rfl, h⟩ | ⟨rfl, h, h44, h45⟩ | ⟨rfl, j, hj, rfl, rfl⟩
  · exact Or.inl ⟨rfl, rfl⟩
  · exact Or.inr ⟨by decide, by decide⟩
  · exact Or.inr ⟨by decide, by decide⟩
  · exact Or.inr ⟨by decide, by decide⟩
  · refine Or.inr ⟨?_, by decide⟩
    rcases h with ⟨rfl, rfl⟩ | ⟨rfl, rfl⟩ | ⟨rfl, rfl⟩ | h
    · decide
    · decide
    · decide
    · rcases h with ⟨rfl, rfl⟩ | ⟨rfl, rfl⟩ | ⟨rfl, rfl⟩ | ⟨rfl, rfl⟩ | ⟨rfl, rfl⟩ | ⟨rfl, rfl⟩ | ⟨rfl, rfl⟩ | ⟨rfl, rfl⟩ | ⟨rfl, rfl⟩ | ⟨rfl, rfl⟩ | ⟨rfl, rfl⟩ | ⟨rfl, rfl⟩ <;> decide
  · exact Or.inr ⟨nI_ne0 (by omega) (by have := (wM j hj).1; omega), by decide⟩
theorem linesR (h : TKS N n cnt b K E) (hN : 2000 < N) (T : Nat → Int32) : ∀ d fc fx t a c q j R P L v, cnt - j ≤ d → d < fc → d + 1 < fx → t ≤ j → LI n cnt b K E a c q j R P L v → ∃ z R' P' L' v', itr (fun y : Int32 × VV × VV × VV × VV => f_X7_read_s38 N y.2.1 y.2.2.1 y.2.2.2.1 y.2.2.2.2 T y.1) fc (nI t, R, K, P, L) = some (z, R', K, P', L') ∧ itr (fun y : VV => f_X12_text_s156 N y) fx v = f_X12_text_b178 N v' ∧ PF v v' ∧ ((z = 0 ∧ FT R' v') ∨ (z = 1 ∧ v'.1 23 = 0 ∧ ∃ a c q j, LI n cnt b K E a c q j R' P' L' v')) := by
  intro d
  induction d with
  | zero =>
    intro fc fx t a c q j R P L v hd hfc hfx ht hl
    obtain ⟨hg, hP, hT, r4, r5, r6, r7⟩ := id hl
    obtain ⟨⟨g1, g2, g3⟩, g4, g5, ⟨g6, g7⟩, g8, g9, g11⟩ := id hg
    obtain ⟨kd, vd, rf⟩ := kindR h g5 g1
    have hc7 := h.2.1
    have ej : j = cnt := by omega
    have k0 : K.2.1 0 j = 0 := by rw [ej]; exact h.2.2.2.2.2
    have s4 : v.1 21 = 4 := by
      rcases end_view g4.2.2.2 with ⟨_, e⟩ | ⟨e, _⟩
      · exact e
      · exact absurd k0 e
    refine ⟨1, R, P, L, v, itr_e hfc ?_, itr_x (by omega) ?_, PF.refl v, Or.inr ⟨rfl, g6, a, c, q, j, hl⟩⟩
    · show f_X7_read_s38 N R K P L T (nI t) = _
      unfold f_X7_read_s38
      rw [h.2.2.1, if_neg (nI_ge (by omega) (by omega)), kd, pu_bnd, if_pos k0, pu_inrO]
    · show f_X12_text_s156 N v = _
      unfold f_X12_text_s156
      rw [if_pos g6, if_pos s4]
  | succ d ih =>
    intro fc fx t a c q j R P L v hd hfc hfx ht hl
    obtain ⟨hg, hP, hT, r4, r5, r6, r7⟩ := id hl
    obtain ⟨⟨g1, g2, g3⟩, g4, g5, ⟨g6, g7⟩, g8, g9, g11⟩ := id hg
    obtain ⟨kd, vd, rf⟩ := kindR h g5 g1
    have hc7 := h.2.1
    rcases Nat.lt_or_ge j cnt with hj | hj
    · have k0 : ¬ K.2.1 0 j = 0 := h.2.2.2.2.1 j hj
      have s4 : ¬ v.1 21 = 4 := by
        rcases end_view g4.2.2.2 with ⟨e, _⟩ | ⟨_, e⟩
        · exact absurd e k0
        · exact e
      obtain ⟨z, R1, P1, L1, v1, l1, l2, l3, l4⟩ := lineR h hN hl hj
      have cs : f_X7_read_s38 N R K P L T (nI t) = if z = 0 then some (.inr (0, R1, K, P1, L1)) else some (.inl (nI (t + 1), si R1 4 (R1.1 4 + 1), K, P1, L1)) := by
        unfold f_X7_read_s38
        rw [h.2.2.1, if_neg (nI_ge (by omega) (by omega)), kd, pu_bnd, if_neg k0, l1, pu_bnd, nI_1]
        by_cases ez : z = 0
        · rw [if_pos ez, if_pos ez, pu_inrO]
        · rw [if_neg ez, if_neg ez]
      have xs : f_X12_text_s156 N v = some (.inl v1) := by
        unfold f_X12_text_s156
        rw [if_pos g6, if_neg s4, l2, pu_bnd]
      rcases l4 with ⟨rfl, l5⟩ | ⟨rfl, a', c', q', j', l5, l6⟩
      · have hf : ¬ v1.1 23 = 0 := by rw [l5.1]; exact l5.2.1
        rw [if_pos rfl] at cs
        refine ⟨0, R1, P1, L1, v1, itr_e (by omega) cs, ?_, l3, Or.inl ⟨rfl, l5⟩⟩
        rw [itr_s (by omega) xs]
        refine itr_x (by omega) ?_
        show f_X12_text_s156 N v1 = _
        unfold f_X12_text_s156
        rw [if_neg hf]
      · rw [if_neg (by decide)] at cs
        obtain ⟨z, R2, P2, L2, v2, m1, m2, m3, m4⟩ := ih (fc - 1) (fx - 1) (t + 1) a' c' q' j' _ P1 L1 v1 (by omega) (by omega) (by omega) (by omega) l6
        refine ⟨z, R2, P2, L2, v2, ?_, ?_, l3.trans m3, m4⟩
        · rw [itr_s (by omega) cs]; exact m1
        · rw [itr_s (by omega) xs]; exact m2
    · obtain ⟨z, R2, P2, L2, v2, m⟩ := ih fc fx t a c q j R P L v (by omega) (by omega) (by omega) ht hl
      exact ⟨z, R2, P2, L2, v2, m⟩
theorem halfR (N : Nat) (hN : 2000 < N) (f : Nat → Int32) {h : Nat} (hh : h ≤ 64) : ∃ f', f_X12_half N (2 * h) f = some f' ∧ ∀ i, i < h → f' i = f (h + i) := by
  unfold f_X12_half
  have e : (Int32.ofNat (2 * h)) / 2 = nI h := by
    show nI (2 * h) / nI 2 = nI h
    rw [pk_div (by omega) (by omega) (by omega), show 2 * h / 2 = h by omega]
  rw [e]
  refine ⟨fun x => if x < h then f (h + x) else f x, ?_, fun i hi => if_pos hi⟩
  refine itrF (A := fun q : Int32 × (Nat → Int32) => f_X12_half_s7 N (2 * h) q.2 (nI h) q.1) h (fun i => (nI i, fun x => if x < i then f (h + x) else f x)) _ ?_ ?_ N 0 (by omega) (by omega)
  · intro i hi
    show f_X12_half_s7 N (2 * h) (fun x => if x < i then f (h + x) else f x) (nI h) (nI i) = _
    unfold f_X12_half_s7
    rw [if_neg (nI_ge hi (by omega)), nI_add, pu_gin (show h + i < 2 * h by omega) (show 2 * h < 2 ^ 31 by omega), pu_gin (show i < 2 * h by omega) (show 2 * h < 2 ^ 31 by omega), nI_clamp (show h + i < 2 ^ 31 by omega), nI_clamp (show i < 2 ^ 31 by omega), nI_1]
    show some (Sum.inl (nI (i + 1), upd (fun x => if x < i then f (h + x) else f x) i (if h + i < i then f (h + (h + i)) else f (h + i)))) = _
    rw [if_neg (show ¬ h + i < i by omega)]
    congr 3
    funext x
    rw [pu_upd]
    by_cases c : x = i
    · rw [if_pos c, if_pos (by omega), c]
    · rw [if_neg c]
      by_cases c2 : x < i
      · rw [if_pos c2, if_pos (by omega)]
      · rw [if_neg c2, if_neg (by omega)]
  · show f_X12_half_s7 N (2 * h) _ (nI h) (nI h) = _
    unfold f_X12_half_s7
    rw [if_pos (nI_le (Nat.le_refl h) (by omega)), pu_inrO]
theorem PR_half {a c : Nat} {P L u u' : VV} (h : PR a c P L u) (hu : ∀ k i, 3 ≤ k → k ≤ 15 → i < hk k → u'.2.1 k i = u.2.1 k i) : PR a c P L u' := by
  obtain ⟨⟨q1, q1'⟩, ⟨q2, q3, q4, q5⟩, q6, q7, q8, q9, q10, q11, q12⟩ := h
  have u3 : ∀ i, i < 9 → u'.2.1 3 i = u.2.1 3 i := fun i hi => hu 3 i (by omega) (by omega) hi
  have u4 : ∀ i, i < 8 → u'.2.1 4 i = u.2.1 4 i := fun i hi => hu 4 i (by omega) (by omega) hi
  have u5 : ∀ i, i < 8 → u'.2.1 5 i = u.2.1 5 i := fun i hi => hu 5 i (by omega) (by omega) hi
  have u6 : ∀ i, i < 24 → u'.2.1 6 i = u.2.1 6 i := fun i hi => hu 6 i (by omega) (by omega) hi
  have u7 : ∀ i, i < 8 → u'.2.1 7 i = u.2.1 7 i := fun i hi => hu 7 i (by omega) (by omega) hi
  have u8 : ∀ i, i < 8 → u'.2.1 8 i = u.2.1 8 i := fun i hi => hu 8 i (by omega) (by omega) hi
  have u9 : ∀ i, i < 8 → u'.2.1 9 i = u.2.1 9 i := fun i hi => hu 9 i (by omega) (by omega) hi
  have u10 : ∀ i, i < 3 → u'.2.1 10 i = u.2.1 10 i := fun i hi => hu 10 i (by omega) (by omega) hi
  have u11 : ∀ i, i < 3 → u'.2.1 11 i = u.2.1 11 i := fun i hi => hu 11 i (by omega) (by omega) hi
  have u12 : ∀ i, i < 3 → u'.2.1 12 i = u.2.1 12 i := fun i hi => hu 12 i (by omega) (by omega) hi
  have u13 : ∀ i, i < 3 → u'.2.1 13 i = u.2.1 13 i := fun i hi => hu 13 i (by omega) (by omega) hi
  have u14 : ∀ i, i < 64 → u'.2.1 14 i = u.2.1 14 i := fun i hi => hu 14 i (by omega) (by omega) hi
  have u15 : ∀ i, i < 64 → u'.2.1 15 i = u.2.1 15 i := fun i hi => hu 15 i (by omega) (by omega) hi
  refine ⟨⟨q1, q1'⟩, ⟨q2, by rw [u3 0 (by omega)]; exact q3, q4, by rw [u3 2 (by omega)]; exact q5⟩, fun p hp => ?_, fun t ht => ?_, q8, ?_, ?_, fun r hr => ?_, by rw [u3 8 (by omega)]; exact q12⟩
  · obtain ⟨⟨t1, t2, t3, t4, t5, t6⟩, s1, s2, s3, s4, s5⟩ := q6 p hp
    refine ⟨⟨by rw [u4 p (by omega)]; exact t1, by rw [u5 p (by omega)]; exact t2, fun t ht => by rw [u6 (3 * p + t) (by omega)]; exact t3 t ht, by rw [u7 p (by omega)]; exact t4, by rw [u8 p (by omega)]; exact t5, by rw [u9 p (by omega)]; exact t6⟩, by rw [u5 p (by omega)]; exact s1, fun t ht => by rw [u6 (3 * p + t) (by omega)]; exact s2 t ht, by rw [u7 p (by omega)]; exact s3, by rw [u8 p (by omega)]; exact s4, by rw [u9 p (by omega)]; exact s5⟩
  · have := q7 t ht
    unfold siR siB at *
    rw [u10 t (by omega), u11 t (by omega)]; exact this
  · rw [seR_iff] at q9 ⊢
    intro s hs
    rw [u3 (swd s) (by have := (swd_ne s hs).1; omega)]; exact q9 s hs
  · rw [seB_iff] at q10 ⊢
    intro s hs
    rw [u3 (swd s) (by have := (swd_ne s hs).1; omega)]; exact q10 s hs
  · obtain ⟨x, y, w1, w2, w3, w4, w5, w6, w7, w8⟩ := q11 r hr
    exact ⟨x, y, w1, by rw [u12 r hr]; exact w2, w3, by rw [u13 r hr]; exact w4, w5, w6, w7, fun i h1 h2 => by rw [u14 i (by omega), u15 i (by omega)]; exact w8 i h1 h2⟩
/-- a day's beginning of all -/
theorem beginR (N : Nat) (hN : 66 < N) {a c : Nat} {P L v : VV} (S : VV) (hP : PR a c P L v) : ∃ S' w, f_X8_begin N S P = some S' ∧ f_X12_begins N v = some w ∧ FR 0 v w ∧ stR a c 0 S' w := by
  have hm := PR_m hP
  obtain ⟨S', s1, ⟨s2, s3, s4, s5, s6, s7⟩, s8, s9⟩ : ∃ S', f_X8_begin N S P = some S' ∧ (S'.1 0 = 0 ∧ S'.1 1 = P.2.1 6 5 ∧ S'.1 9 = 0 ∧ S'.1 10 = 0 ∧ S'.1 11 = 0 ∧ S'.1 12 = 0) ∧ (∀ p, p < 8 → S'.2.1 2 p = -1 ∧ S'.2.1 5 p = 0 ∧ S'.2.1 6 p = 0 ∧ S'.2.1 7 p = 0 ∧ S'.2.1 8 p = 0) ∧ ∀ u, u < 3 → S'.2.1 3 u = 0 ∧ S'.2.1 4 u = P.2.1 5 u := by
    unfold f_X8_begin
    refine itr1 (A := fun q : Int32 × VV => f_X8_begin_s37 N q.2 P q.1) (fun x (y : Int32 × VV) => ∃ i, x = 8 - i ∧ i ≤ 8 ∧ y.1 = nI i ∧ (y.2.1 0 = 0 ∧ y.2.1 1 = P.2.1 6 5 ∧ y.2.1 9 = 0 ∧ y.2.1 10 = 0 ∧ y.2.1 11 = 0 ∧ y.2.1 12 = 0) ∧ (∀ p, p < i → y.2.2.1 2 p = -1 ∧ y.2.2.1 5 p = 0 ∧ y.2.2.1 6 p = 0 ∧ y.2.2.1 7 p = 0 ∧ y.2.2.1 8 p = 0)) _ ?_ N 8 _ (by omega) ⟨0, rfl, by omega, rfl, ⟨rfl, rfl, rfl, rfl, rfl, rfl⟩, fun p hp => by omega⟩
    intro x y hR
    obtain ⟨y1, S1⟩ := y
    obtain ⟨i, hx, hi, f1, f2, f3⟩ := hR
    simp only at f1 f2 f3
    subst f1
    simp only
    unfold f_X8_begin_s37
    rcases Nat.lt_or_ge i 8 with hlt | hge
    · left
      simp only [if_neg (show ¬ (8 : Int32) ≤ nI (i) from nI_ge (a := i) (b := 8) (by omega) (by omega)), pu_gin (show i < 8 by omega) (show 8 < 2 ^ 31 by omega), nI_clamp (show i < 2 ^ 31 by omega), nI_1]
      refine ⟨8 - (i + 1), _, by omega, rfl, i + 1, rfl, by omega, rfl, f2, fun p hp => ?_⟩
      show upd (S1.2.1 2) i (-1) p = -1 ∧ upd (S1.2.1 5) i 0 p = 0 ∧ upd (S1.2.1 6) i 0 p = 0 ∧ upd (S1.2.1 7) i 0 p = 0 ∧ upd (S1.2.1 8) i 0 p = 0
      by_cases e : p = i
      · subst e; rw [pk_us, pk_us, pk_us, pk_us, pk_us]; exact ⟨rfl, rfl, rfl, rfl, rfl⟩
      · rw [pk_un e, pk_un e, pk_un e, pk_un e, pk_un e]; exact f3 p (by omega)
    · right
      have : i = 8 := by omega
      subst this
      rw [if_pos (show (8 : Int32) ≤ nI 8 by decide)]
      obtain ⟨S', r1, r2⟩ := itr1 (A := fun q : Int32 × VV => f_X8_begin_s86 N q.2 P q.1) (fun x (y : Int32 × VV) => ∃ i, x = 3 - i ∧ i ≤ 3 ∧ y.1 = nI i ∧ (y.2.1 0 = 0 ∧ y.2.1 1 = P.2.1 6 5 ∧ y.2.1 9 = 0 ∧ y.2.1 10 = 0 ∧ y.2.1 11 = 0 ∧ y.2.1 12 = 0) ∧ (∀ p, p < 8 → y.2.2.1 2 p = -1 ∧ y.2.2.1 5 p = 0 ∧ y.2.2.1 6 p = 0 ∧ y.2.2.1 7 p = 0 ∧ y.2.2.1 8 p = 0) ∧ ∀ u, u < i → y.2.2.1 3 u = 0 ∧ y.2.2.1 4 u = P.2.1 5 u) (fun S' => (S'.1 0 = 0 ∧ S'.1 1 = P.2.1 6 5 ∧ S'.1 9 = 0 ∧ S'.1 10 = 0 ∧ S'.1 11 = 0 ∧ S'.1 12 = 0) ∧ (∀ p, p < 8 → S'.2.1 2 p = -1 ∧ S'.2.1 5 p = 0 ∧ S'.2.1 6 p = 0 ∧ S'.2.1 7 p = 0 ∧ S'.2.1 8 p = 0) ∧ ∀ u, u < 3 → S'.2.1 3 u = 0 ∧ S'.2.1 4 u = P.2.1 5 u) (by
        intro x y hR
        obtain ⟨y1, S2⟩ := y
        obtain ⟨i, hx, hi, e1, e2, e3, e4⟩ := hR
        simp only at e1 e2 e3 e4
        subst e1
        simp only
        unfold f_X8_begin_s86 f_X8_forgetSitting
        rcases Nat.lt_or_ge i 3 with hlt | hge
        · left
          simp only [if_neg (show ¬ (3 : Int32) ≤ nI (i) from nI_ge (a := i) (b := 3) (by omega) (by omega)), if_neg (nI_pos (show i < 2 ^ 31 by omega)), pu_gin (show i < 3 by omega) (show 3 < 2 ^ 31 by omega), nI_clamp (show i < 2 ^ 31 by omega), nI_1, pu_bnd]
          refine ⟨3 - (i + 1), _, by omega, rfl, i + 1, rfl, by omega, rfl, e2, e3, fun u hu => ?_⟩
          show upd (S2.2.1 3) i 0 u = 0 ∧ upd (S2.2.1 4) i (P.2.1 5 i) u = P.2.1 5 u
          by_cases e : u = i
          · subst e; rw [pk_us, pk_us]; exact ⟨rfl, rfl⟩
          · rw [pk_un e, pk_un e]; exact e4 u (by omega)
        · right
          have : i = 3 := by omega
          subst this
          rw [if_pos (show (3 : Int32) ≤ nI 3 by decide), pu_inrO]
          exact ⟨_, rfl, e2, e3, e4⟩) N 3 (0, S1) (by omega) ⟨0, rfl, by omega, rfl, f2, f3, fun u hu => by omega⟩
      rw [r1, pu_inrO]
      exact ⟨S', rfl, r2⟩
  obtain ⟨w, w1, w2, ⟨w3, w4, w5, w6, w7⟩, w8, w9⟩ : ∃ w, f_X12_begins N v = some w ∧ FR 0 v w ∧ (w.2.1 32 0 = 0 ∧ w.2.1 33 0 = 0 ∧ w.2.1 34 0 = 0 ∧ w.2.1 35 0 = 0 ∧ w.2.1 36 0 = v.2.1 3 7) ∧ (∀ p, p < 8 → w.2.1 37 p = -1 ∧ w.2.1 38 p = 0 ∧ w.2.1 39 p = 0 ∧ w.2.1 40 p = 0 ∧ w.2.1 41 p = 0) ∧ ∀ u, u < 3 → w.2.1 42 u = 0 ∧ w.2.1 43 u = (if u < c then v.2.1 11 u else 0) ∧ w.2.1 44 u = -1 ∧ w.2.1 45 u = -1 ∧ w.2.1 46 u = -1 ∧ w.2.1 47 u = -1 := by
    unfold f_X12_begins
    have fr0 : FR 0 v (sr (sr (sr (sr (sr v 32 0 0) 33 0 0) 34 0 0) 35 0 0) 36 0 (v.2.1 3 7)) := ((((FR_5 (c := 0) 32 0 (by omega) (by omega)).trans (FR_5 33 0 (by omega) (by omega))).trans (FR_5 34 0 (by omega) (by omega))).trans (FR_5 35 0 (by omega) (by omega))).trans (FR_5 36 _ (by omega) (by omega))
    refine itr1 (A := fun q : Int32 × VV => f_X12_begins_s43 N q.2 q.1) (fun x (y : Int32 × VV) => ∃ i, x = 8 - i ∧ i ≤ 8 ∧ y.1 = nI i ∧ FR 0 v y.2 ∧ (y.2.2.1 32 0 = 0 ∧ y.2.2.1 33 0 = 0 ∧ y.2.2.1 34 0 = 0 ∧ y.2.2.1 35 0 = 0 ∧ y.2.2.1 36 0 = v.2.1 3 7) ∧ (∀ p, p < i → y.2.2.1 37 p = -1 ∧ y.2.2.1 38 p = 0 ∧ y.2.2.1 39 p = 0 ∧ y.2.2.1 40 p = 0 ∧ y.2.2.1 41 p = 0)) _ ?_ N 8 _ (by omega) ⟨0, rfl, by omega, rfl, fr0, ⟨rfl, rfl, rfl, rfl, rfl⟩, fun p hp => by omega⟩
    intro x y hR
    obtain ⟨y1, w⟩ := y
    obtain ⟨i, hx, hi, f1, f2, f3, f4⟩ := hR
    simp only at f1 f2 f3 f4
    subst f1
    simp only
    unfold f_X12_begins_s43
    rcases Nat.lt_or_ge i 8 with hlt | hge
    · left
      simp only [if_neg (show ¬ (8 : Int32) ≤ nI (i) from nI_ge (a := i) (b := 8) (by omega) (by omega)), pu_gin (show i < 184 by omega) (show 184 < 2 ^ 31 by omega), nI_clamp (show i < 2 ^ 31 by omega), nI_1]
      refine ⟨8 - (i + 1), _, by omega, rfl, i + 1, rfl, by omega, rfl, (((((f2.trans (FR0_8 37 i _ (by omega) (by omega) hlt)).trans (FR0_8 38 i _ (by omega) (by omega) hlt)).trans (FR0_8 39 i _ (by omega) (by omega) hlt)).trans (FR0_8 40 i _ (by omega) (by omega) hlt)).trans (FR0_8 41 i _ (by omega) (by omega) hlt)), f3, fun p hp => ?_⟩
      show upd (w.2.1 37) i (-1) p = -1 ∧ upd (w.2.1 38) i 0 p = 0 ∧ upd (w.2.1 39) i 0 p = 0 ∧ upd (w.2.1 40) i 0 p = 0 ∧ upd (w.2.1 41) i 0 p = 0
      by_cases e : p = i
      · subst e; rw [pk_us, pk_us, pk_us, pk_us, pk_us]; exact ⟨rfl, rfl, rfl, rfl, rfl⟩
      · rw [pk_un e, pk_un e, pk_un e, pk_un e, pk_un e]; exact f4 p (by omega)
    · right
      have : i = 8 := by omega
      subst this
      rw [if_pos (show (8 : Int32) ≤ nI 8 by decide)]
      obtain ⟨w', r1, r2⟩ := itr1 (A := fun q : Int32 × VV => f_X12_begins_s92 N q.2 q.1) (fun x (y : Int32 × VV) => ∃ i, x = 3 - i ∧ i ≤ 3 ∧ y.1 = nI i ∧ FR 0 v y.2 ∧ (y.2.2.1 32 0 = 0 ∧ y.2.2.1 33 0 = 0 ∧ y.2.2.1 34 0 = 0 ∧ y.2.2.1 35 0 = 0 ∧ y.2.2.1 36 0 = v.2.1 3 7) ∧ (∀ p, p < 8 → y.2.2.1 37 p = -1 ∧ y.2.2.1 38 p = 0 ∧ y.2.2.1 39 p = 0 ∧ y.2.2.1 40 p = 0 ∧ y.2.2.1 41 p = 0) ∧ ∀ u, u < i → y.2.2.1 42 u = 0 ∧ y.2.2.1 43 u = (if u < c then v.2.1 11 u else 0) ∧ y.2.2.1 44 u = -1 ∧ y.2.2.1 45 u = -1 ∧ y.2.2.1 46 u = -1 ∧ y.2.2.1 47 u = -1) (fun w => FR 0 v w ∧ (w.2.1 32 0 = 0 ∧ w.2.1 33 0 = 0 ∧ w.2.1 34 0 = 0 ∧ w.2.1 35 0 = 0 ∧ w.2.1 36 0 = v.2.1 3 7) ∧ (∀ p, p < 8 → w.2.1 37 p = -1 ∧ w.2.1 38 p = 0 ∧ w.2.1 39 p = 0 ∧ w.2.1 40 p = 0 ∧ w.2.1 41 p = 0) ∧ ∀ u, u < 3 → w.2.1 42 u = 0 ∧ w.2.1 43 u = (if u < c then v.2.1 11 u else 0) ∧ w.2.1 44 u = -1 ∧ w.2.1 45 u = -1 ∧ w.2.1 46 u = -1 ∧ w.2.1 47 u = -1) (by
        intro x y hR
        obtain ⟨y1, w2⟩ := y
        obtain ⟨i, hx, hi, e1, e2, e3, e4, e5⟩ := hR
        simp only at e1 e2 e3 e4 e5
        subst e1
        simp only
        have e32 : w2.2.1 3 2 = nI c := by rw [e2.2.1 3 (by omega)]; exact PR_v2 hP
        have e11 : w2.2.1 11 = v.2.1 11 := e2.2.1 11 (by omega)
        rcases Nat.lt_or_ge i 3 with hlt | hge
        · left
          have step : f_X12_begins_s92 N w2 (nI i) = some (.inl (nI (i + 1), sr (sr (sr (sr (sr (sr w2 42 i 0) 43 i (if i < c then v.2.1 11 i else 0)) 44 i (-1)) 45 i (-1)) 46 i (-1)) 47 i (-1))) := by
            unfold f_X12_begins_s92 f_X12_begins_b129
            simp only [if_neg (show ¬ (3 : Int32) ≤ nI (i) from nI_ge (a := i) (b := 3) (by omega) (by omega)), pu_gin (show i < 69 by omega) (show 69 < 2 ^ 31 by omega), pu_gin (show i < 6 by omega) (show 6 < 2 ^ 31 by omega), nI_clamp (show i < 2 ^ 31 by omega), nI_1, e32, e11]
            by_cases cc : i < c
            · rw [if_neg (nI_ge cc (by omega)), if_pos cc]
            · rw [if_pos (nI_le (by omega) (by omega)), if_neg cc]
          refine ⟨3 - (i + 1), _, by omega, step, i + 1, rfl, by omega, rfl, ((((((e2.trans (FR0_3 42 i _ (by omega) (by omega) hlt)).trans (FR0_3 43 i _ (by omega) (by omega) hlt)).trans (FR0_3 44 i _ (by omega) (by omega) hlt)).trans (FR0_3 45 i _ (by omega) (by omega) hlt)).trans (FR0_3 46 i _ (by omega) (by omega) hlt)).trans (FR0_3 47 i _ (by omega) (by omega) hlt)), e3, e4, fun u hu => ?_⟩
          show upd (w2.2.1 42) i 0 u = 0 ∧ upd (w2.2.1 43) i (if i < c then v.2.1 11 i else 0) u = (if u < c then v.2.1 11 u else 0) ∧ upd (w2.2.1 44) i (-1) u = -1 ∧ upd (w2.2.1 45) i (-1) u = -1 ∧ upd (w2.2.1 46) i (-1) u = -1 ∧ upd (w2.2.1 47) i (-1) u = -1
          by_cases e : u = i
          · subst e; rw [pk_us, pk_us, pk_us, pk_us, pk_us, pk_us]; exact ⟨rfl, rfl, rfl, rfl, rfl, rfl⟩
          · rw [pk_un e, pk_un e, pk_un e, pk_un e, pk_un e, pk_un e]; exact e5 u (by omega)
        · right
          have : i = 3 := by omega
          subst this
          unfold f_X12_begins_s92
          rw [if_pos (show (3 : Int32) ≤ nI 3 by decide), pu_inrO]
          exact ⟨_, rfl, e2, e3, e4, e5⟩) N 3 (0, w) (by omega) ⟨0, rfl, by omega, rfl, f2, f3, f4, fun u hu => by omega⟩
      rw [r1, pu_inrO]
      exact ⟨w', rfl, r2⟩
  refine ⟨S', w, s1, w1, w2, ⟨⟨?_, ?_, ?_, ?_, ?_⟩, fun p hp => ?_, fun p hp => ?_, fun p hp => ?_, fun _ p hp => ?_, fun p hp => ?_, fun u hu => ?_, fun u hu => ?_⟩, Or.inl ⟨s7, fun u hu => ?_⟩, fun u hu => ⟨0, by omega, (s9 u hu).1⟩, fun p hp => Or.inl (s8 p hp).1, fun p _ hp => (s8 p hp).2.2.1, ⟨0, by omega, s2⟩⟩
  · rw [s2, w3]
  · rw [s3, w7, (PR_sE hP).2.2.2.2.2]
  · rw [s4, w4]
  · rw [s5, w5]
  · rw [s6, w6]
  · rw [(s8 p hp).1, show 8 * 0 + p = p by omega, (w8 p hp).1]
  · rw [(s8 p hp).2.1, show 8 * 0 + p = p by omega, (w8 p hp).2.1]
  · rw [(s8 p hp).2.2.1, show 8 * 0 + p = p by omega, (w8 p hp).2.2.1]
  · rw [(s8 p hp).2.2.2.1, show 8 * 0 + p = p by omega, (w8 p hp).2.2.2.1]
  · rw [(s8 p hp).2.2.2.2, show 8 * 0 + p = p by omega, (w8 p hp).2.2.2.2]
  · rw [(s9 u hu).1, show 3 * 0 + u = u by omega, (w9 u hu).1]
  · rw [(s9 u hu).2, show 3 * 0 + u = u by omega, (w9 u hu).2.1]
    by_cases cc : u < c
    · rw [if_pos cc]; exact (PR_sR hP cc).2
    · rw [if_neg cc]; exact PR_5 hP (by omega) hu
  · rw [show 3 * 0 + u = u by omega]; exact (w9 u hu).2.2
