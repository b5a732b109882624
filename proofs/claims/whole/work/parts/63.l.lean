/-! best -/
theorem PR_sz {n m p : Nat} {P L v : VV} (h : PR n m P L v) (hp : p < n) : v.2.1 5 p = nI (szP P p) ∧ 1 ≤ szP P p ∧ szP P p ≤ 9 := by
  obtain ⟨s, s1, s9, es⟩ := (PR_tB h hp).1
  have e : szP P p = s := by unfold szP; rw [(PR_tR h hp).2.1, es, nI_clamp (by omega)]
  rw [e]; exact ⟨es, s1, s9⟩
theorem bm_lt {b x : Nat} (hb : b < 2 ^ 30) (hx : x < 2 ^ 30) : nI b - 1 < nI x ↔ b ≤ x := by
  rw [Int32.lt_iff_toInt_lt, show (1 : Int32) = nI 1 from rfl, pk_sub_toInt hb (by omega), nI_toInt (by omega)]
  omega
theorem bm_le {b x : Nat} (hb : b < 2 ^ 30) (hx : x < 2 ^ 30) : nI x ≤ nI b - 1 ↔ ¬ b ≤ x := by
  rw [Int32.le_iff_toInt_le, show (1 : Int32) = nI 1 from rfl, pk_sub_toInt hb (by omega), nI_toInt (by omega)]
  omega
/-- one party's turn: the tickets tried in order -/
def bsT (m : Nat) (sz : Nat → Nat) (ok : Nat → Nat → Bool) (wt : Nat → Nat → Nat) (k p : Nat) (lf : Nat → Nat) (s : Nat) (pk : Nat → Int32) (st : Nat × (Nat → Int32)) (j : Nat) : Nat × (Nat → Int32) := (List.range j).foldl (fun st t => if ok p t = true ∧ sz p ≤ lf t then bsF m sz ok wt k (p + 1) (fun u => if u = t then lf u - sz p else lf u) (s + wt p t) (upd pk p (nI t)) st else st) (bsF m sz ok wt k (p + 1) lf s (upd pk p (-1)) st)
theorem bsF_s (m : Nat) (sz : Nat → Nat) (ok : Nat → Nat → Bool) (wt : Nat → Nat → Nat) (k p : Nat) (lf : Nat → Nat) (s : Nat) (pk : Nat → Int32) (st : Nat × (Nat → Int32)) : bsF m sz ok wt (k + 1) p lf s pk st = bsT m sz ok wt k p lf s pk st m := rfl
theorem bsT_0 (m : Nat) (sz : Nat → Nat) (ok : Nat → Nat → Bool) (wt : Nat → Nat → Nat) (k p : Nat) (lf : Nat → Nat) (s : Nat) (pk : Nat → Int32) (st : Nat × (Nat → Int32)) : bsT m sz ok wt k p lf s pk st 0 = bsF m sz ok wt k (p + 1) lf s (upd pk p (-1)) st := rfl
theorem bsT_s (m : Nat) (sz : Nat → Nat) (ok : Nat → Nat → Bool) (wt : Nat → Nat → Nat) (k p : Nat) (lf : Nat → Nat) (s : Nat) (pk : Nat → Int32) (st : Nat × (Nat → Int32)) (j : Nat) : bsT m sz ok wt k p lf s pk st (j + 1) = if ok p j = true ∧ sz p ≤ lf j then bsF m sz ok wt k (p + 1) (fun u => if u = j then lf u - sz p else lf u) (s + wt p j) (upd pk p (nI j)) (bsT m sz ok wt k p lf s pk st j) else bsT m sz ok wt k p lf s pk st j := by
  unfold bsT
  rw [List.range_succ, List.foldl_append]
  rfl
theorem bs_0 {m : Nat} {sz : Nat → Nat} {ok : Nat → Nat → Bool} {wt : Nat → Nat → Nat} {p : Nat} {lf : Nat → Nat} {s : Nat} {pk : Nat → Int32} {st : Nat × (Nat → Int32)} : bsF m sz ok wt 0 p lf s pk st = if st.1 ≤ s then (s + 1, pk) else st := rfl
/-- what a search can't win it leaves -/
theorem bs_prune {n m : Nat} {sz : Nat → Nat} {ok : Nat → Nat → Bool} {wt : Nat → Nat → Nat} {mx hq : Nat → Nat} (hmx : ∀ q t, q < n → t < m → ok q t = true → wt q t ≤ mx q) (hhq : ∀ i, i < n → hq (i + 1) = hq i + mx (n - (i + 1))) : ∀ k p lf s pk st, p + k = n → s + hq k < st.1 → bsF m sz ok wt k p lf s pk st = st := by
  intro k
  induction k with
  | zero => intro p lf s pk st _ h; rw [bs_0, if_neg (by omega)]
  | succ k ih =>
    intro p lf s pk st hp h
    have e := hhq k (by omega)
    rw [show n - (k + 1) = p by omega] at e
    rw [bsF_s]
    have : ∀ j, j ≤ m → bsT m sz ok wt k p lf s pk st j = st := by
      intro j
      induction j with
      | zero => intro _; rw [bsT_0]; exact ih _ _ _ _ _ (by omega) (by omega)
      | succ j ihj =>
        intro hj
        rw [bsT_s, ihj (by omega)]
        by_cases c : ok p j = true ∧ sz p ≤ lf j
        · have := hmx p j (by omega) (by omega) c.1
          rw [if_pos c]; exact ih _ _ _ _ _ (by omega) (by omega)
        · rw [if_neg c]
    exact this m (Nat.le_refl m)
theorem bs_le {n m M : Nat} {sz : Nat → Nat} {ok : Nat → Nat → Bool} {wt : Nat → Nat → Nat} (hw : ∀ q t, q < n → t < m → wt q t ≤ 891) : ∀ k p lf s pk st, p + k = n → s + 891 * k ≤ M → st.1 ≤ M + 1 → (bsF m sz ok wt k p lf s pk st).1 ≤ M + 1 := by
  intro k
  induction k with
  | zero =>
    intro p lf s pk st _ h1 h2
    rw [bs_0]
    by_cases c : st.1 ≤ s
    · rw [if_pos c]; show s + 1 ≤ M + 1; omega
    · rw [if_neg c]; exact h2
  | succ k ih =>
    intro p lf s pk st hp h1 h2
    rw [bsF_s]
    have : ∀ j, j ≤ m → (bsT m sz ok wt k p lf s pk st j).1 ≤ M + 1 := by
      intro j
      induction j with
      | zero => intro _; rw [bsT_0]; exact ih _ _ _ _ _ (by omega) (by omega) h2
      | succ j ihj =>
        intro hj
        rw [bsT_s]
        by_cases c : ok p j = true ∧ sz p ≤ lf j
        · have := hw p j (by omega) (by omega)
          rw [if_pos c]; exact ih _ _ _ _ _ (by omega) (by omega) (ihj (by omega))
        · rw [if_neg c]; exact ihj (by omega)
    exact this m (Nat.le_refl m)
theorem bs_mono {m : Nat} {sz : Nat → Nat} {ok : Nat → Nat → Bool} {wt : Nat → Nat → Nat} : ∀ k p lf s pk st, st.1 ≤ (bsF m sz ok wt k p lf s pk st).1 ∧ s < (bsF m sz ok wt k p lf s pk st).1 := by
  intro k
  induction k with
  | zero =>
    intro p lf s pk st
    rw [bs_0]
    by_cases c : st.1 ≤ s
    · rw [if_pos c]; show st.1 ≤ s + 1 ∧ s < s + 1; omega
    · rw [if_neg c]; omega
  | succ k ih =>
    intro p lf s pk st
    rw [bsF_s]
    have : ∀ j, st.1 ≤ (bsT m sz ok wt k p lf s pk st j).1 ∧ s < (bsT m sz ok wt k p lf s pk st j).1 := by
      intro j
      induction j with
      | zero => rw [bsT_0]; exact ih _ _ _ _ _
      | succ j ihj =>
        rw [bsT_s]
        by_cases c : ok p j = true ∧ sz p ≤ lf j
        · rw [if_pos c]
          have := (ih (p + 1) (fun u => if u = j then lf u - sz p else lf u) (s + wt p j) (upd pk p (nI j)) (bsT m sz ok wt k p lf s pk st j)).1
          omega
        · rw [if_neg c]; exact ihj
    exact this m
theorem bs_congr {n m : Nat} {sz : Nat → Nat} {ok ok' : Nat → Nat → Bool} {wt wt' : Nat → Nat → Nat} (h : ∀ q t, q < n → t < m → ok q t = ok' q t ∧ (ok q t = true → wt q t = wt' q t)) : ∀ k p lf s pk st, p + k = n → bsF m sz ok wt k p lf s pk st = bsF m sz ok' wt' k p lf s pk st := by
  intro k
  induction k with
  | zero => intro p lf s pk st _; rfl
  | succ k ih =>
    intro p lf s pk st hp
    rw [bsF_s, bsF_s]
    have : ∀ j, j ≤ m → bsT m sz ok wt k p lf s pk st j = bsT m sz ok' wt' k p lf s pk st j := by
      intro j
      induction j with
      | zero => intro _; rw [bsT_0, bsT_0]; exact ih _ _ _ _ _ (by omega)
      | succ j ihj =>
        intro hj
        obtain ⟨e1, e2⟩ := h p j (by omega) (by omega)
        rw [bsT_s, bsT_s, ihj (by omega), ← e1]
        by_cases c : ok p j = true ∧ sz p ≤ lf j
        · rw [if_pos c, if_pos c, e2 c.1]; exact ih _ _ _ _ _ (by omega)
        · rw [if_neg c, if_neg c]
    exact this m (Nat.le_refl m)
/-- the class's state in its search -/
def gS (n m : Nat) (ok : Nat → Nat → Bool) (wt : Nat → Nat → Nat) (hq : Nat → Nat) (D : VV) (p : Nat) (lf : Nat → Nat) (pk : Nat → Int32) (st : Nat × (Nat → Int32)) : Prop := (∀ q t, q < n → t < m → (ok q t = false ∧ D.2.1 (100 + q) t = -1) ∨ (ok q t = true ∧ D.2.1 (100 + q) t = nI (wt q t))) ∧ (∀ q, q ≤ n → D.2.1 4 q = nI (hq (n - q))) ∧ (∀ t, t < m → D.2.1 1 t = nI (lf t)) ∧ (∀ q, q < p → D.2.1 2 q = pk q) ∧ D.1 5 = nI st.1 - 1 ∧ (0 < st.1 → ∀ q, q < n → D.2.1 3 q = st.2 q)
theorem searchR (N : Nat) (hN : 66 < N) {n m : Nat} {P L v : VV} {ok : Nat → Nat → Bool} {wt : Nat → Nat → Nat} {mx hq : Nat → Nat} (hP : PR n m P L v) (hw : ∀ q t, q < n → t < m → wt q t ≤ 891) (hmx : ∀ q t, q < n → t < m → ok q t = true → wt q t ≤ mx q) (hmx9 : ∀ q, mx q ≤ 891) (hhq : ∀ i, i < n → hq (i + 1) = hq i + mx (n - (i + 1))) (hhq9 : ∀ i, i ≤ n → hq i ≤ 891 * i) :
    ∀ k d p lf s pk st D, p + k = n → k < d → s + 891 * k ≤ 7128 → st.1 ≤ 7129 → (∀ t, t < m → lf t ≤ 198) → gS n m ok wt hq D p lf pk st → ∃ D', f_X1_search N d D P (nI p) (nI s) = some D' ∧ gS n m ok wt hq D' p lf pk (bsF m (szP P) ok wt k p lf s pk st) := by
  have hn := PR_n hP
  have hm := PR_m hP
  intro k
  induction k with
  | zero =>
    intro d p lf s pk st D hp hd hs hst hlf hg
    obtain ⟨e, rfl⟩ : ∃ e, d = e + 1 := ⟨d - 1, by omega⟩
    obtain ⟨g1, g2, g3, g4, g5, g6⟩ := id hg
    have : p = n := by omega
    subst this
    show ∃ D', f_X1_search_body N (f_X1_search N e) D P (nI p) (nI s) = some D' ∧ _
    unfold f_X1_search_body f_X1_search_b14
    rw [PR_P0 hP, if_pos (nI_le (Nat.le_refl p) (by omega)), g5, bs_0]
    by_cases c : st.1 ≤ s
    · rw [if_neg (show ¬ nI s ≤ nI st.1 - 1 from fun h => (bm_le (by omega) (by omega)).mp h c), if_pos c]
      refine ⟨_, rfl, fun q t hq ht => by rw [pu_sw2, if_neg (by omega)]; exact g1 q t hq ht, g2, g3, g4, (nI_pred s).symm, fun _ q hq => ?_⟩
      show va_cpy (D.2.1 2) (D.2.1 3) 0 0 8 q = pk q
      rw [cpy0 (by omega)]; exact g4 q hq
    · rw [if_pos ((bm_le (by omega) (by omega)).mpr c), if_neg c]
      exact ⟨D, rfl, hg⟩
  | succ k ih =>
    intro d p lf s pk st D hp hd hs hst hlf hg
    obtain ⟨e, rfl⟩ : ∃ e, d = e + 1 := ⟨d - 1, by omega⟩
    obtain ⟨g1, g2, g3, g4, g5, g6⟩ := id hg
    have hpn : p < n := by omega
    obtain ⟨z1, z2, z3⟩ := PR_sz hP hpn
    have eh := g2 p (by omega)
    rw [show n - p = k + 1 by omega] at eh
    have h9 := hhq9 (k + 1) (by omega)
    show ∃ D', f_X1_search_body N (f_X1_search N e) D P (nI p) (nI s) = some D' ∧ _
    unfold f_X1_search_body
    rw [PR_P0 hP, if_neg (nI_ge hpn (by omega)), if_pos (show nI (p) < (8 : Int32) from nI_lt (a := p) (b := 8) (by omega) (by omega)), if_neg (nI_pos (show p < 2 ^ 31 by omega)), pu_gin (show p < 9 by omega) (show 9 < 2 ^ 31 by omega), nI_clamp (show p < 2 ^ 31 by omega), eh, nI_add, g5]
    by_cases c : st.1 ≤ s + hq (k + 1)
    · rw [if_pos ((bm_lt (by omega) (by omega)).mpr c), tra0 hP hpn, pu_bnd, pu_gin (show p < 8 by omega) (show 8 < 2 ^ 31 by omega), nI_1, z1]
      have ga : gS n m ok wt hq (sr D 2 p (-1)) (p + 1) lf (upd pk p (-1)) st := by
        refine ⟨fun q t hq ht => ?_, g2, g3, fun q hq => ?_, g5, g6⟩
        · rw [pu_sr2, if_neg (by omega)]; exact g1 q t hq ht
        · show upd (D.2.1 2) p (-1) q = upd pk p (-1) q
          rw [pu_upd, pu_upd]
          by_cases eq : q = p
          · rw [if_pos eq, if_pos eq]
          · rw [if_neg eq, if_neg eq]; exact g4 q (by omega)
      obtain ⟨D1, k1, k2⟩ := ih e (p + 1) lf s (upd pk p (-1)) st _ (by omega) (by omega) (by omega) hst hlf ga
      rw [k1, pu_bnd, bsF_s]
      have weak : ∀ (D' : VV) (lf' : Nat → Nat) (pk' : Nat → Int32) st', gS n m ok wt hq D' (p + 1) lf' pk' st' → (∀ q, q < p → pk' q = pk q) → gS n m ok wt hq D' p lf' pk st' := fun D' lf' pk' st' h hpk => ⟨h.1, h.2.1, h.2.2.1, fun q hq => (h.2.2.2.1 q (by omega)).trans (hpk q hq), h.2.2.2.2⟩
      have hT : ∀ j, j ≤ m → (bsT m (szP P) ok wt k p lf s pk st j).1 ≤ 7129 := by
        intro j
        induction j with
        | zero => intro _; rw [bsT_0]; exact bs_le (M := 7128) hw k _ _ _ _ _ (by omega) (by omega) hst
        | succ j ihj =>
          intro hj
          rw [bsT_s]
          by_cases c : ok p j = true ∧ szP P p ≤ lf j
          · have := hw p j hpn (by omega)
            rw [if_pos c]; exact bs_le (M := 7128) hw k _ _ _ _ _ (by omega) (by omega) (ihj (by omega))
          · rw [if_neg c]; exact ihj (by omega)
      refine itr1 (A := fun q : Int32 × VV => f_X1_search_s90 N (f_X1_search N e) q.2 P (nI p) (nI s) (nI (szP P p)) q.1) (fun x (y : Int32 × VV) => ∃ j, x = m - j ∧ j ≤ m ∧ y.1 = nI j ∧ gS n m ok wt hq y.2 p lf pk (bsT m (szP P) ok wt k p lf s pk st j)) (fun D' => gS n m ok wt hq D' p lf pk (bsT m (szP P) ok wt k p lf s pk st m)) ?_ N m (0, D1) (by omega) ⟨0, rfl, by omega, rfl, weak _ _ _ _ k2 (fun q hq => pk_un (by omega))⟩
      intro x y hR
      obtain ⟨y1, D2⟩ := y
      obtain ⟨j, hx, hj, f1, f2⟩ := hR
      simp only at f1 f2
      subst f1
      simp only
      obtain ⟨q1, q2, q3, q4, q5, q6⟩ := id f2
      unfold f_X1_search_s90 f_X1_search_b174
      rw [PR_P3 hP]
      rcases Nat.lt_or_ge j m with hlt | hge
      · left
        rw [if_neg (nI_ge hlt (by omega)), pu_gin (show p < 8 by omega) (show 8 < 2 ^ 31 by omega), pu_gin (show j < 3 by omega) (show 3 < 2 ^ 31 by omega), nI_clamp (show p < 2 ^ 31 by omega), nI_clamp (show j < 2 ^ 31 by omega), nI_1]
        have hsk : bsT m (szP P) ok wt k p lf s pk st (j + 1) = bsT m (szP P) ok wt k p lf s pk st j → ∃ m' t, m' < x ∧ (some (Sum.inl (nI (j + 1), D2)) : Option ((Int32 × VV) ⊕ VV)) = some (.inl t) ∧ ∃ j, m' = m - j ∧ j ≤ m ∧ t.1 = nI j ∧ gS n m ok wt hq t.2 p lf pk (bsT m (szP P) ok wt k p lf s pk st j) := fun e => ⟨m - (j + 1), _, by omega, rfl, j + 1, rfl, hlt, rfl, by rw [e]; exact f2⟩
        rcases q1 p j hpn hlt with ⟨o1, o2⟩ | ⟨o1, o2⟩
        · rw [if_pos (show D2.2.1 (100 + p) j < 0 by rw [o2]; decide)]
          exact hsk (by rw [bsT_s, if_neg (by rw [o1]; exact fun h => absurd h.1 (by decide))])
        · have hwj := hw p j hpn hlt
          have hl := hlf j hlt
          rw [if_neg (show ¬ D2.2.1 (100 + p) j < 0 by rw [o2]; exact nI_pos (by omega)), pu_gin (show j < 3 by omega) (show 3 < 2 ^ 31 by omega), q3 j hlt]
          by_cases c2 : szP P p ≤ lf j
          · rw [if_neg (nI_nlt c2 (by omega)), pk_sub c2]
            have e100 : (sr (sr D2 2 p (nI j)) 1 j (nI (lf j - szP P p))).2.1 (100 + p) j = nI (wt p j) := by
              rw [pu_sr2, if_neg (by omega), pu_sr2, if_neg (by omega), o2]
            rw [e100, nI_add]
            simp only [pu_gin (show p < 8 by omega) (show 8 < 2 ^ 31 by omega), pu_gin (show j < 3 by omega) (show 3 < 2 ^ 31 by omega)]
            have gb : gS n m ok wt hq (sr (sr D2 2 p (nI j)) 1 j (nI (lf j - szP P p))) (p + 1) (fun u => if u = j then lf u - szP P p else lf u) (upd pk p (nI j)) (bsT m (szP P) ok wt k p lf s pk st j) := by
              refine ⟨fun q t hq ht => ?_, q2, fun t ht => ?_, fun q hq => ?_, q5, q6⟩
              · rw [pu_sr2, if_neg (by omega), pu_sr2, if_neg (by omega)]; exact q1 q t hq ht
              · show upd (D2.2.1 1) j (nI (lf j - szP P p)) t = nI (if t = j then lf t - szP P p else lf t)
                rw [pu_upd]
                by_cases e : t = j
                · rw [if_pos e, if_pos e, e]
                · rw [if_neg e, if_neg e]; exact q3 t ht
              · show upd (D2.2.1 2) p (nI j) q = upd pk p (nI j) q
                rw [pu_upd, pu_upd]
                by_cases eq : q = p
                · rw [if_pos eq, if_pos eq]
                · rw [if_neg eq, if_neg eq]; exact q4 q (by omega)
            obtain ⟨D3, r1, r2⟩ := ih e (p + 1) _ (s + wt p j) (upd pk p (nI j)) _ _ (by omega) (by omega) (by omega) (hT j (by omega)) (fun t ht => by have := hlf t ht; split <;> omega) gb
            rw [nI_1 p, r1, pu_bnd]
            obtain ⟨p1, p2, p3, p4, p5, p6⟩ := r2
            have el : D3.2.1 1 j = nI (lf j - szP P p) := by rw [p3 j hlt]; show nI (if j = j then lf j - szP P p else lf j) = _; rw [if_pos rfl]
            rw [el, nI_add, Nat.sub_add_cancel c2]
            refine ⟨m - (j + 1), _, by omega, rfl, j + 1, rfl, hlt, rfl, ?_⟩
            rw [bsT_s, if_pos ⟨o1, c2⟩]
            refine ⟨fun q t hq ht => ?_, p2, fun t ht => ?_, fun q hq => ?_, p5, p6⟩
            · show (ok q t = false ∧ (sr D3 1 j (nI (lf j))).2.1 (100 + q) t = -1) ∨ (ok q t = true ∧ (sr D3 1 j (nI (lf j))).2.1 (100 + q) t = nI (wt q t))
              rw [pu_sr2, if_neg (by omega)]; exact p1 q t hq ht
            · show upd (D3.2.1 1) j (nI (lf j)) t = nI (lf t)
              rw [pu_upd]
              by_cases e : t = j
              · rw [if_pos e, e]
              · rw [if_neg e, p3 t ht]; show nI (if t = j then lf t - szP P p else lf t) = _; rw [if_neg e]
            · exact (p4 q (by omega)).trans (pk_un (by omega))
          · rw [if_pos (nI_lt (by omega) (by omega))]
            exact hsk (by rw [bsT_s, if_neg (fun h => c2 h.2)])
      · right
        have : j = m := by omega
        subst this
        rw [if_pos (nI_le (Nat.le_refl j) (by omega)), pu_inrO]
        exact ⟨_, rfl, f2⟩
    · rw [if_neg (fun h => c ((bm_lt (by omega) (by omega)).mp h)), bs_prune hmx hhq (k + 1) p lf s pk st hp (by omega)]
      exact ⟨D, rfl, hg⟩
