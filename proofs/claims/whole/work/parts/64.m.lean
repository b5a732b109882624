/-! best: the reference's search, what the class tells and finds -/
def gX (n m : Nat) (v0 : VV) (v : VV) (p : Nat) (lf : Nat → Nat) (pk : Nat → Int32) (st : Nat × (Nat → Int32)) : Prop := KV v0 v ∧ (∀ t, t < m → v.2.1 58 t = nI (lf t)) ∧ (∀ q, q < p → v.2.1 59 q = pk q) ∧ v.1 61 = nI st.1 - 1 ∧ (0 < st.1 → ∀ q, q < n → v.2.1 60 q = st.2 q)
def okX (v : VV) (p t : Nat) : Bool := if v.2.1 7 p < v.2.1 10 t + v.2.1 3 3 then false else true
theorem rowsR (N : Nat) (hN : 66 < N) {n m : Nat} {P L v0 : VV} {lk : Nat → Nat → Nat} (hP : PR n m P L v0) (lk1 : ∀ p t, p < n → t < m → lk p t ≤ 99) (lk2 : ∀ p t, p < n → t < m → ∀ v', KV v0 v' → ∃ v2, f_X12_likeOf N v' 0 (nI p) (nI t) 0 = some (nI (lk p t), v2) ∧ wkG v' v2) :
    ∀ k d p lf s pk st v, p + k = n → k < d → s + 891 * k ≤ 7128 → st.1 ≤ 7129 → (∀ t, t < m → lf t ≤ 198) → gX n m v0 v p lf pk st → ∃ v', f_X12_rows N d v (nI p) (nI s) = some v' ∧ gX n m v0 v' p lf pk (bsF m (szP P) (okX v0) (fun p t => lk p t * szP P p) k p lf s pk st) := by
  have hn := PR_n hP
  have hm := PR_m hP
  have hw : ∀ q t, q < n → t < m → lk q t * szP P q ≤ 891 := fun q t hq ht => Nat.mul_le_mul (lk1 q t hq ht) (PR_sz hP hq).2.2
  intro k
  induction k with
  | zero =>
    intro d p lf s pk st v hp hd hs hst hlf hg
    obtain ⟨e, rfl⟩ : ∃ e, d = e + 1 := ⟨d - 1, by omega⟩
    obtain ⟨g1, g2, g3, g4, g5⟩ := id hg
    have : p = n := by omega
    subst this
    have e30 : v.2.1 3 0 = nI p := by rw [g1.2.1 3 (by omega)]; exact PR_v0 hP
    show ∃ v', f_X12_rows_body N (f_X12_rows N e) v (nI p) (nI s) = some v' ∧ _
    unfold f_X12_rows_body
    rw [e30, if_pos rfl, g4, bs_0]
    by_cases c : st.1 ≤ s
    · rw [if_pos ((bm_lt (by omega) (by omega)).mpr c), if_pos c]
      refine itr1 (A := fun q : Int32 × VV => f_X12_rows_s26 N (f_X12_rows N e) q.2 (nI p) q.1) (fun x (y : Int32 × VV) => ∃ j, x = p - j ∧ j ≤ p ∧ y.1 = nI j ∧ KV v0 y.2 ∧ (∀ t, t < m → y.2.2.1 58 t = nI (lf t)) ∧ (∀ q, q < p → y.2.2.1 59 q = pk q) ∧ y.2.1 61 = nI s ∧ ∀ q, q < j → y.2.2.1 60 q = pk q) (fun v' => gX p m v0 v' p lf pk (s + 1, pk)) ?_ N p (0, si v 61 (nI s)) (by omega) ⟨0, rfl, by omega, rfl, g1.trans (KV_si 61 _ (by omega)), g2, g3, rfl, fun q hq => by omega⟩
      intro x y hR
      obtain ⟨y1, w⟩ := y
      obtain ⟨j, hx, hj, f1, f2, f3, f4, f5, f6⟩ := hR
      simp only at f1 f2 f3 f4 f5 f6
      subst f1
      simp only
      unfold f_X12_rows_s26
      rcases Nat.lt_or_ge j p with hlt | hge
      · left
        rw [if_neg (nI_ge hlt (by omega)), pu_gin (show j < 8 by omega) (show 8 < 2 ^ 31 by omega), nI_clamp (show j < 2 ^ 31 by omega), pu_gin (show j < 8 by omega) (show 8 < 2 ^ 31 by omega), nI_1]
        refine ⟨p - (j + 1), _, by omega, rfl, j + 1, rfl, hlt, rfl, f2.trans (KV_sr 60 j _ (by omega) (by omega)), f3, f4, f5, fun q hq => ?_⟩
        show upd (w.2.1 60) j (w.2.1 59 j) q = pk q
        rw [pu_upd]
        by_cases e : q = j
        · rw [if_pos e, e]; exact f4 j hlt
        · rw [if_neg e]; exact f6 q (by omega)
      · right
        have : j = p := by omega
        subst this
        rw [if_pos (nI_le (Nat.le_refl j) (by omega)), pu_inrO]
        exact ⟨_, rfl, f2, f3, f4, by rw [f5]; exact (nI_pred s).symm, fun _ => f6⟩
    · rw [if_neg (fun h => c ((bm_lt (by omega) (by omega)).mp h)), if_neg c]
      exact ⟨v, rfl, hg⟩
  | succ k ih =>
    intro d p lf s pk st v hp hd hs hst hlf hg
    obtain ⟨e, rfl⟩ : ∃ e, d = e + 1 := ⟨d - 1, by omega⟩
    obtain ⟨g1, g2, g3, g4, g5⟩ := id hg
    have hpn : p < n := by omega
    obtain ⟨z1, z2, z3⟩ := PR_sz hP hpn
    have e30 : v.2.1 3 0 = nI n := by rw [g1.2.1 3 (by omega)]; exact PR_v0 hP
    show ∃ v', f_X12_rows_body N (f_X12_rows N e) v (nI p) (nI s) = some v' ∧ _
    unfold f_X12_rows_body
    rw [e30, if_neg (fun h => absurd ((nI_eq (by omega) (by omega)).mp h) (by omega)), pu_gin (show p < 8 by omega) (show 8 < 2 ^ 31 by omega), nI_clamp (show p < 2 ^ 31 by omega), nI_1]
    have ga : gX n m v0 (sr v 59 p (-1)) (p + 1) lf (upd pk p (-1)) st := by
      refine ⟨g1.trans (KV_sr 59 p _ (by omega) (by omega)), g2, fun q hq => ?_, g4, g5⟩
      show upd (v.2.1 59) p (-1) q = upd pk p (-1) q
      rw [pu_upd, pu_upd]
      by_cases eq : q = p
      · rw [if_pos eq, if_pos eq]
      · rw [if_neg eq, if_neg eq]; exact g3 q (by omega)
    obtain ⟨v1, k1, k2⟩ := ih e (p + 1) lf s (upd pk p (-1)) st _ (by omega) (by omega) (by omega) hst hlf ga
    rw [k1, pu_bnd, bsF_s]
    have weak : ∀ (w : VV) (lf' : Nat → Nat) (pk' : Nat → Int32) st', gX n m v0 w (p + 1) lf' pk' st' → (∀ q, q < p → pk' q = pk q) → gX n m v0 w p lf' pk st' := fun w lf' pk' st' h hpk => ⟨h.1, h.2.1, fun q hq => (h.2.2.1 q (by omega)).trans (hpk q hq), h.2.2.2⟩
    have hT : ∀ j, j ≤ m → (bsT m (szP P) (okX v0) (fun p t => lk p t * szP P p) k p lf s pk st j).1 ≤ 7129 := by
      intro j
      induction j with
      | zero => intro _; rw [bsT_0]; exact bs_le (M := 7128) hw k _ _ _ _ _ (by omega) (by omega) hst
      | succ j ihj =>
        intro hj
        rw [bsT_s]
        by_cases c : okX v0 p j = true ∧ szP P p ≤ lf j
        · have := hw p j hpn (by omega)
          rw [if_pos c]; exact bs_le (M := 7128) hw k _ _ _ _ _ (by omega) (by show s + lk p j * szP P p + 891 * k ≤ 7128; omega) (ihj (by omega))
        · rw [if_neg c]; exact ihj (by omega)
    refine itr1 (A := fun q : Int32 × VV => f_X12_rows_s67 N (f_X12_rows N e) q.2 (nI p) (nI s) q.1) (fun x (y : Int32 × VV) => ∃ j, x = m - j ∧ j ≤ m ∧ y.1 = nI j ∧ gX n m v0 y.2 p lf pk (bsT m (szP P) (okX v0) (fun p t => lk p t * szP P p) k p lf s pk st j)) (fun v' => gX n m v0 v' p lf pk (bsT m (szP P) (okX v0) (fun p t => lk p t * szP P p) k p lf s pk st m)) ?_ N m (0, v1) (by omega) ⟨0, rfl, by omega, rfl, weak _ _ _ _ k2 (fun q hq => pk_un (by omega))⟩
    intro x y hR
    obtain ⟨y1, w⟩ := y
    obtain ⟨j, hx, hj, f1, f2⟩ := hR
    simp only at f1 f2
    subst f1
    simp only
    obtain ⟨q1, q2, q3, q4, q5⟩ := id f2
    have e32 : w.2.1 3 2 = nI m := by rw [q1.2.1 3 (by omega)]; exact PR_v2 hP
    unfold f_X12_rows_s67 f_X12_rows_b150
    rw [e32]
    rcases Nat.lt_or_ge j m with hlt | hge
    · left
      have hl := hlf j hlt
      have e5 : w.2.1 5 p = nI (szP P p) := by rw [q1.2.1 5 (by omega)]; exact z1
      have hmh : f_X12_mayHave w (nI p) (nI j) = some (if okX v0 p j = true ∧ szP P p ≤ lf j then 1 else 0) := by
        unfold f_X12_mayHave okX
        rw [pu_gin (show j < 3 by omega) (show 3 < 2 ^ 31 by omega), pu_gin (show p < 16 by omega) (show 16 < 2 ^ 31 by omega), nI_clamp (show j < 2 ^ 31 by omega), nI_clamp (show p < 2 ^ 31 by omega), q2 j hlt, e5, pu_gin (show j < 6 by omega) (show 6 < 2 ^ 31 by omega), pu_gin (show p < 16 by omega) (show 16 < 2 ^ 31 by omega), q1.2.1 7 (by omega), q1.2.1 10 (by omega), q1.2.1 3 (by omega)]
        by_cases c2 : szP P p ≤ lf j
        · rw [if_neg (nI_nlt c2 (by omega))]
          by_cases c3 : v0.2.1 7 p < v0.2.1 10 j + v0.2.1 3 3
          · rw [if_pos c3, if_pos c3, if_neg (fun h => absurd h.1 (by decide))]
          · rw [if_neg c3, if_neg c3, if_pos ⟨rfl, c2⟩]
        · rw [if_pos (nI_lt (by omega) (by omega)), if_neg (fun h => c2 h.2)]
      rw [if_neg (nI_ge hlt (by omega)), hmh, pu_bnd, nI_1]
      by_cases c : okX v0 p j = true ∧ szP P p ≤ lf j
      · have hwj := hw p j hpn hlt
        rw [if_pos c, if_neg (by decide)]
        simp only [pu_gin (show j < 3 by omega) (show 3 < 2 ^ 31 by omega), pu_gin (show p < 16 by omega) (show 16 < 2 ^ 31 by omega), pu_gin (show p < 8 by omega) (show 8 < 2 ^ 31 by omega), nI_clamp (show j < 2 ^ 31 by omega), nI_clamp (show p < 2 ^ 31 by omega), q2 j hlt, e5, pk_sub c.2]
        have kvb : KV v0 (sr (sr w 58 j (nI (lf j - szP P p))) 59 p (nI j)) := (q1.trans (KV_sr 58 j _ (by omega) (by omega))).trans (KV_sr 59 p _ (by omega) (by omega))
        obtain ⟨v2, l1, l2⟩ := lk2 p j hpn hlt _ kvb
        rw [l1, pu_bnd]
        have gb : gX n m v0 v2 (p + 1) (fun u => if u = j then lf u - szP P p else lf u) (upd pk p (nI j)) (bsT m (szP P) (okX v0) (fun p t => lk p t * szP P p) k p lf s pk st j) := by
          refine ⟨kvb.trans (KV_wk l2), fun t ht => ?_, fun q hq => ?_, (l2.2 61 (by omega)).trans q4, fun h q hq => ?_⟩
          · rw [l2.1]
            show upd (w.2.1 58) j (nI (lf j - szP P p)) t = nI (if t = j then lf t - szP P p else lf t)
            rw [pu_upd]
            by_cases e : t = j
            · rw [if_pos e, if_pos e, e]
            · rw [if_neg e, if_neg e]; exact q2 t ht
          · rw [l2.1]
            show upd (w.2.1 59) p (nI j) q = upd pk p (nI j) q
            rw [pu_upd, pu_upd]
            by_cases eq : q = p
            · rw [if_pos eq, if_pos eq]
            · rw [if_neg eq, if_neg eq]; exact q3 q (by omega)
          · rw [l2.1]; exact q5 h q hq
        have e5' : v2.2.1 5 p = nI (szP P p) := by rw [l2.1]; exact e5
        dsimp only
        rw [e5', pk_mul, nI_add, nI_1]
        obtain ⟨v3, r1, r2⟩ := ih e (p + 1) _ (s + lk p j * szP P p) (upd pk p (nI j)) _ _ (by omega) (by omega) (by omega) (hT j (by omega)) (fun t ht => by have := hlf t ht; split <;> omega) gb
        rw [r1, pu_bnd]
        obtain ⟨p1, p2, p3, p4, p5⟩ := r2
        have el : v3.2.1 58 j = nI (lf j - szP P p) := by rw [p2 j hlt]; show nI (if j = j then lf j - szP P p else lf j) = _; rw [if_pos rfl]
        have e53 : v3.2.1 5 p = nI (szP P p) := by rw [p1.2.1 5 (by omega)]; exact z1
        rw [el, e53, nI_add, Nat.sub_add_cancel c.2]
        refine ⟨m - (j + 1), _, by omega, rfl, j + 1, rfl, hlt, rfl, ?_⟩
        rw [bsT_s, if_pos c]
        refine ⟨p1.trans (KV_sr 58 j _ (by omega) (by omega)), fun t ht => ?_, fun q hq => ?_, p4, p5⟩
        · show upd (v3.2.1 58) j (nI (lf j)) t = nI (lf t)
          rw [pu_upd]
          by_cases e : t = j
          · rw [if_pos e, e]
          · rw [if_neg e, p2 t ht]; show nI (if t = j then lf t - szP P p else lf t) = _; rw [if_neg e]
        · exact (p3 q (by omega)).trans (pk_un (by omega))
      · rw [if_neg c, if_pos rfl]
        exact ⟨m - (j + 1), _, by omega, rfl, j + 1, rfl, hlt, rfl, by rw [bsT_s, if_neg c]; exact f2⟩
    · right
      have : j = m := by omega
      subst this
      rw [if_pos (nI_le (Nat.le_refl j) (by omega)), pu_inrO]
      exact ⟨_, rfl, f2⟩
/-- how many tickets there are for a sitting -/
theorem capR {n m : Nat} {P L v : VV} (hP : PR n m P L v) : ∃ cap : Nat, cap ≤ 198 ∧ v.2.1 3 1 + v.2.1 3 6 = nI cap ∧ P.2.1 6 0 + P.2.1 6 4 = nI cap := by
  obtain ⟨a, a1, a9, ea⟩ := (PR_sF hP).1
  obtain ⟨b, b9, eb⟩ := (PR_sF hP).2.2.2.2.1
  refine ⟨a + b, by omega, by rw [ea, eb, nI_add], ?_⟩
  rw [(PR_sE hP).1, (PR_sE hP).2.2.2.2.1, ea, eb, nI_add]
theorem layBestR (N : Nat) (hN : 66 < N) {n m cap : Nat} {P L v0 : VV} {lk : Nat → Nat → Nat} (hP : PR n m P L v0) (lk1 : ∀ p t, p < n → t < m → lk p t ≤ 99) (lk2 : ∀ p t, p < n → t < m → ∀ v', KV v0 v' → ∃ v2, f_X12_likeOf N v' 0 (nI p) (nI t) 0 = some (nI (lk p t), v2) ∧ wkG v' v2) (hc : cap ≤ 198) (ec : v0.2.1 3 1 + v0.2.1 3 6 = nI cap) :
    ∃ v', f_X12_layBest N v0 = some v' ∧ KV v0 v' ∧ v'.1 61 = nI (bsF m (szP P) (okX v0) (fun p t => lk p t * szP P p) n 0 (fun _ => cap) 0 (fun _ => -1) (0, fun _ => -1)).1 - 1 ∧ ∀ q, q < n → v'.2.1 60 q = (bsF m (szP P) (okX v0) (fun p t => lk p t * szP P p) n 0 (fun _ => cap) 0 (fun _ => -1) (0, fun _ => -1)).2 q := by
  have hn := PR_n hP
  have hm := PR_m hP
  unfold f_X12_layBest
  refine itr1 (A := fun q : Int32 × VV => f_X12_layBest_s2 N q.2 q.1) (fun x (y : Int32 × VV) => ∃ j, x = 3 - j ∧ j ≤ 3 ∧ y.1 = nI j ∧ KV v0 y.2 ∧ ∀ t, t < j → y.2.2.1 58 t = nI cap) (fun v' => KV v0 v' ∧ v'.1 61 = nI (bsF m (szP P) (okX v0) (fun p t => lk p t * szP P p) n 0 (fun _ => cap) 0 (fun _ => -1) (0, fun _ => -1)).1 - 1 ∧ ∀ q, q < n → v'.2.1 60 q = (bsF m (szP P) (okX v0) (fun p t => lk p t * szP P p) n 0 (fun _ => cap) 0 (fun _ => -1) (0, fun _ => -1)).2 q) ?_ N 3 (0, v0) (by omega) ⟨0, rfl, by omega, rfl, KV.refl _, fun t ht => by omega⟩
  intro x y hR
  obtain ⟨y1, w⟩ := y
  obtain ⟨j, hx, hj, f1, f2, f3⟩ := hR
  simp only at f1 f2 f3
  subst f1
  simp only
  unfold f_X12_layBest_s2
  rcases Nat.lt_or_ge j 3 with hlt | hge
  · left
    rw [if_neg (show ¬ (3 : Int32) ≤ nI (j) from nI_ge (a := j) (b := 3) (by omega) (by omega)), pu_gin (show j < 3 by omega) (show 3 < 2 ^ 31 by omega), nI_clamp (show j < 2 ^ 31 by omega), nI_1, f2.2.1 3 (by omega), ec]
    refine ⟨3 - (j + 1), _, by omega, rfl, j + 1, rfl, by omega, rfl, f2.trans (KV_sr 58 j _ (by omega) (by omega)), fun t ht => ?_⟩
    show upd (w.2.1 58) j (nI cap) t = nI cap
    rw [pu_upd]
    by_cases e : t = j
    · rw [if_pos e]
    · rw [if_neg e]; exact f3 t (by omega)
  · right
    have : j = 3 := by omega
    subst this
    obtain ⟨v', r1, r2, r3, r4, r5, r6⟩ := rowsR N hN hP lk1 lk2 n 10 0 (fun _ => cap) 0 (fun _ => -1) (0, fun _ => -1) (si w 61 (-1)) (by omega) (by omega) (by omega) (by show 0 ≤ 7129; omega) (fun _ _ => hc) ⟨f2.trans (KV_si 61 _ (by omega)), fun t ht => f3 t (by omega), fun q hq => by omega, rfl, fun h => absurd h (Nat.lt_irrefl 0)⟩
    have r1' : f_X12_rows N 10 (si w 61 (-1)) 0 0 = some v' := r1
    rw [if_pos (show (3 : Int32) ≤ nI 3 from by decide), r1', pu_bnd, pu_inrO]
    exact ⟨_, rfl, r2, r5, r6 (Nat.lt_of_le_of_lt (Nat.zero_le _) (bs_mono n 0 _ 0 _ _).2)⟩
def mxF (ok : Nat → Nat → Bool) (wt : Nat → Nat → Nat) (q : Nat) : Nat → Nat
  | 0 => 0
  | t + 1 => if ok q t = true ∧ mxF ok wt q t < wt q t then wt q t else mxF ok wt q t
theorem mx_le {ok : Nat → Nat → Bool} {wt : Nat → Nat → Nat} {q m : Nat} : ∀ j, j ≤ m → ∀ t, t < j → ok q t = true → wt q t ≤ mxF ok wt q j := by
  intro j
  induction j with
  | zero => intro _ t ht; omega
  | succ j ih =>
    intro hj t ht ho
    show wt q t ≤ if ok q j = true ∧ mxF ok wt q j < wt q j then wt q j else mxF ok wt q j
    by_cases e : t = j
    · subst e
      by_cases c : ok q t = true ∧ mxF ok wt q t < wt q t
      · rw [if_pos c]; exact Nat.le_refl _
      · rw [if_neg c]
        rcases Nat.lt_or_ge (mxF ok wt q t) (wt q t) with h | h
        · exact absurd ⟨ho, h⟩ c
        · exact h
    · have := ih (by omega) t (by omega) ho
      by_cases c : ok q j = true ∧ mxF ok wt q j < wt q j
      · rw [if_pos c]; omega
      · rw [if_neg c]; exact this
theorem mx_9 {ok : Nat → Nat → Bool} {wt : Nat → Nat → Nat} {q : Nat} : ∀ j, (∀ t, t < j → wt q t ≤ 891) → mxF ok wt q j ≤ 891 := by
  intro j
  induction j with
  | zero => intro _; exact Nat.zero_le _
  | succ j ih =>
    intro hw
    have a := ih (fun t ht => hw t (by omega))
    have b := hw j (by omega)
    show (if ok q j = true ∧ mxF ok wt q j < wt q j then wt q j else mxF ok wt q j) ≤ 891
    split <;> omega
def hqF (n m : Nat) (ok : Nat → Nat → Bool) (wt : Nat → Nat → Nat) : Nat → Nat
  | 0 => 0
  | i + 1 => hqF n m ok wt i + (if n - (i + 1) < n then mxF ok wt (n - (i + 1)) m else 0)
theorem findR (N : Nat) (hN : 66 < N) {n m cap : Nat} {P L v : VV} {ok : Nat → Nat → Bool} {wt : Nat → Nat → Nat} {D : VV} (hP : PR n m P L v) (hw : ∀ q t, q < n → t < m → wt q t ≤ 891) (hc : cap ≤ 198) (ec : P.2.1 6 0 + P.2.1 6 4 = nI cap) (hD : D.1 6 = 0) (h1 : ∀ q t, q < n → t < m → (ok q t = false ∧ D.2.1 (100 + q) t = -1) ∨ (ok q t = true ∧ D.2.1 (100 + q) t = nI (wt q t))) :
    ∃ D', f_X1_find N D P = some D' ∧ D'.1 6 = 1 ∧ (∀ q t, q < n → t < m → (ok q t = false ∧ D'.2.1 (100 + q) t = -1) ∨ (ok q t = true ∧ D'.2.1 (100 + q) t = nI (wt q t))) ∧ D'.1 5 = nI (bsF m (szP P) ok wt n 0 (fun _ => cap) 0 (fun _ => -1) (0, fun _ => -1)).1 - 1 ∧ ∀ q, q < n → D'.2.1 3 q = (bsF m (szP P) ok wt n 0 (fun _ => cap) 0 (fun _ => -1) (0, fun _ => -1)).2 q := by
  have hn := PR_n hP
  have hm := PR_m hP
  have hmt : f_X6_mostTickets P = some (nI cap) := by unfold f_X6_mostTickets; rw [ec]
  obtain ⟨mx, emx⟩ : ∃ mx : Nat → Nat, mx = fun q => if q < n then mxF ok wt q m else 0 := ⟨_, rfl⟩
  have hmx : ∀ q t, q < n → t < m → ok q t = true → wt q t ≤ mx q := fun q t hq ht ho => by rw [emx]; show wt q t ≤ if q < n then mxF ok wt q m else 0; rw [if_pos hq]; exact mx_le m (Nat.le_refl m) t ht ho
  have hmx9 : ∀ q, mx q ≤ 891 := fun q => by
    rw [emx]
    show (if q < n then mxF ok wt q m else 0) ≤ 891
    by_cases c : q < n
    · rw [if_pos c]; exact mx_9 m (fun t ht => hw q t c ht)
    · rw [if_neg c]; omega
  have hhq : ∀ i, i < n → hqF n m ok wt (i + 1) = hqF n m ok wt i + mx (n - (i + 1)) := fun i hi => by rw [emx]; rfl
  have hhq9 : ∀ i, i ≤ n → hqF n m ok wt i ≤ 891 * i := by
    intro i
    induction i with
    | zero => intro _; exact Nat.zero_le _
    | succ i ih =>
      intro hi
      have := hmx9 (n - (i + 1))
      rw [hhq i (by omega)]
      have := ih (by omega)
      omega
  unfold f_X1_find
  rw [if_pos hD, PR_P0 hP, pu_gin (show n < 9 by omega) (show 9 < 2 ^ 31 by omega), nI_clamp (show n < 2 ^ 31 by omega)]
  refine itr1 (A := fun q : Int32 × VV => f_X1_find_s25 N q.2 P q.1) (fun x (y : Int32 × VV) => ∃ i, x = i ∧ i ≤ n ∧ y.1 = nI i - 1 ∧ (∀ q t, q < n → t < m → (ok q t = false ∧ y.2.2.1 (100 + q) t = -1) ∨ (ok q t = true ∧ y.2.2.1 (100 + q) t = nI (wt q t))) ∧ ∀ q, i ≤ q → q ≤ n → y.2.2.1 4 q = nI (hqF n m ok wt (n - q))) _ ?_ N n (nI n - 1, sr D 4 n 0) (by omega) ⟨n, rfl, Nat.le_refl n, rfl, fun q t hq ht => by rw [pu_sr2, if_neg (by omega)]; exact h1 q t hq ht, fun q hq hq' => by
    have : q = n := by omega
    subst this
    show upd (D.2.1 4) q 0 q = _
    rw [pk_us, Nat.sub_self]; rfl⟩
  intro x y hR
  obtain ⟨y1, D1⟩ := y
  obtain ⟨i, rfl, hi, f1, f2, f3⟩ := hR
  simp only at f1 f2 f3
  subst f1
  simp only
  unfold f_X1_find_s25
  rcases Nat.eq_zero_or_pos x with hz | hpos
  · right
    subst hz
    rw [if_pos (show nI 0 - 1 < 0 from by decide)]
    obtain ⟨r, r1, r2⟩ := itr1 (A := fun q : Int32 × VV => f_X1_find_s87 N q.2 P q.1) (fun x (y : Int32 × VV) => ∃ j, x = 3 - j ∧ j ≤ 3 ∧ y.1 = nI j ∧ (∀ q t, q < n → t < m → (ok q t = false ∧ y.2.2.1 (100 + q) t = -1) ∨ (ok q t = true ∧ y.2.2.1 (100 + q) t = nI (wt q t))) ∧ (∀ q, q ≤ n → y.2.2.1 4 q = nI (hqF n m ok wt (n - q))) ∧ ∀ t, t < j → y.2.2.1 1 t = nI cap) (fun D' => D'.1 6 = 1 ∧ (∀ q t, q < n → t < m → (ok q t = false ∧ D'.2.1 (100 + q) t = -1) ∨ (ok q t = true ∧ D'.2.1 (100 + q) t = nI (wt q t))) ∧ D'.1 5 = nI (bsF m (szP P) ok wt n 0 (fun _ => cap) 0 (fun _ => -1) (0, fun _ => -1)).1 - 1 ∧ ∀ q, q < n → D'.2.1 3 q = (bsF m (szP P) ok wt n 0 (fun _ => cap) 0 (fun _ => -1) (0, fun _ => -1)).2 q) (by
      intro x y hR
      obtain ⟨y1, D2⟩ := y
      obtain ⟨j, hx, hj, e1, e2, e3, e4⟩ := hR
      simp only at e1 e2 e3 e4
      subst e1
      simp only
      unfold f_X1_find_s87
      rcases Nat.lt_or_ge j 3 with hlt | hge
      · left
        rw [if_neg (show ¬ (3 : Int32) ≤ nI (j) from nI_ge (a := j) (b := 3) (by omega) (by omega)), hmt, pu_bnd, pu_gin (show j < 3 by omega) (show 3 < 2 ^ 31 by omega), nI_clamp (show j < 2 ^ 31 by omega), nI_1]
        refine ⟨3 - (j + 1), _, by omega, rfl, j + 1, rfl, by omega, rfl, fun q t hq ht => by rw [pu_sr2, if_neg (by omega)]; exact e2 q t hq ht, e3, fun t ht => ?_⟩
        show upd (D2.2.1 1) j (nI cap) t = nI cap
        rw [pu_upd]
        by_cases e : t = j
        · rw [if_pos e]
        · rw [if_neg e]; exact e4 t (by omega)
      · right
        have : j = 3 := by omega
        subst this
        obtain ⟨D', r1, r2, r3, r4, r5, r6, r7⟩ := searchR N hN hP hw hmx hmx9 hhq hhq9 n 10 0 (fun _ => cap) 0 (fun _ => -1) (0, fun _ => -1) (si D2 5 (-1)) (by omega) (by omega) (by omega) (by show 0 ≤ 7129; omega) (fun _ _ => hc) ⟨e2, e3, fun t ht => e4 t (by omega), fun q hq => by omega, rfl, fun h => absurd h (Nat.lt_irrefl 0)⟩
        have r1' : f_X1_search N 10 (si D2 5 (-1)) P 0 0 = some D' := r1
        rw [if_pos (show (3 : Int32) ≤ nI 3 from by decide), r1', pu_bnd, pu_inrO]
        exact ⟨_, rfl, rfl, r2, r6, r7 (Nat.lt_of_le_of_lt (Nat.zero_le _) (bs_mono n 0 _ 0 _ _).2)⟩) N 3 (0, D1) (by omega) ⟨0, rfl, by omega, rfl, f2, fun q hq => f3 q (by omega) hq, fun t ht => by omega⟩
    rw [r1, pu_inrO]
    exact ⟨_, rfl, r2⟩
  · left
    obtain ⟨i, rfl⟩ : ∃ i, x = i + 1 := ⟨x - 1, by omega⟩
    have inn := itrF (A := fun q : Int32 × Int32 × VV => f_X1_find_s34 N q.2.2 P (nI i) q.1 q.2.1) m (fun j => (nI (mxF ok wt i j), nI j, D1)) (.inl (nI i - 1, sr D1 4 i (nI (hqF n m ok wt (n - (i + 1)) + mxF ok wt i m)))) (by
      intro j hj
      show f_X1_find_s34 N D1 P (nI i) (nI (mxF ok wt i j)) (nI j) = _
      unfold f_X1_find_s34
      have a9 := mx_9 (ok := ok) (q := i) j (fun t ht => hw i t (by omega) (by omega))
      rw [PR_P3 hP, if_neg (nI_ge hj (by omega)), pu_gin (show i < 8 by omega) (show 8 < 2 ^ 31 by omega), pu_gin (show j < 3 by omega) (show 3 < 2 ^ 31 by omega), nI_clamp (show i < 2 ^ 31 by omega), nI_clamp (show j < 2 ^ 31 by omega), nI_1]
      show _ = some (Sum.inl (nI (if ok i j = true ∧ mxF ok wt i j < wt i j then wt i j else mxF ok wt i j), nI (j + 1), D1))
      have key : jmax (nI (mxF ok wt i j)) (D1.2.1 (100 + i) j) = nI (if ok i j = true ∧ mxF ok wt i j < wt i j then wt i j else mxF ok wt i j) := by
        unfold jmax
        rcases f2 i j (by omega) hj with ⟨o1, o2⟩ | ⟨o1, o2⟩
        · rw [o2, if_neg (fun h => nI_pos (show mxF ok wt i j < 2 ^ 31 by omega) (i_lt_le h (by decide))), if_neg (by rw [o1]; exact fun h => absurd h.1 (by decide))]
        · have b9 := hw i j (by omega) hj
          rw [o2]
          by_cases c : mxF ok wt i j < wt i j
          · rw [if_pos (nI_lt c (by omega)), if_pos ⟨o1, c⟩]
          · rw [if_neg (nI_nlt (by omega) (by omega)), if_neg (fun h => c h.2)]
      rw [key]) (by
      show f_X1_find_s34 N D1 P (nI i) (nI (mxF ok wt i m)) (nI m) = _
      unfold f_X1_find_s34
      rw [PR_P3 hP, if_pos (nI_le (Nat.le_refl m) (by omega)), nI_1, pu_gin (show i + 1 < 9 by omega) (show 9 < 2 ^ 31 by omega), pu_gin (show i < 9 by omega) (show 9 < 2 ^ 31 by omega), nI_clamp (show i + 1 < 2 ^ 31 by omega), nI_clamp (show i < 2 ^ 31 by omega), f3 (i + 1) (by omega) (by omega), nI_add, idx_m, pu_inrO]) N 0 (by omega) (by omega)
    have inn' : itr (fun q : Int32 × Int32 × VV => f_X1_find_s34 N q.2.2 P (nI i) q.1 q.2.1) N (0, 0, D1) = _ := inn
    rw [nI_pred, if_neg (nI_pos (show i < 2 ^ 31 by omega)), inn']
    refine ⟨i, _, by omega, rfl, i, rfl, by omega, rfl, fun q t hq ht => by rw [pu_sr2, if_neg (by omega)]; exact f2 q t hq ht, fun q hq hq' => ?_⟩
    show upd (D1.2.1 4) i _ q = _
    rw [pu_upd]
    by_cases e : q = i
    · rw [if_pos e, e]
      obtain ⟨r, hr⟩ : ∃ r, n - (i + 1) = r := ⟨_, rfl⟩
      rw [show n - i = r + 1 by omega, hr]
      show _ = nI (hqF n m ok wt r + if n - (r + 1) < n then mxF ok wt (n - (r + 1)) m else 0)
      rw [show n - (r + 1) = i by omega, if_pos (by omega)]
    · rw [if_neg e]; exact f3 q (by omega) hq'
/-- the class tells all worths, then finds -/
theorem findBestR (N : Nat) (hN : 66 < N) {n m : Nat} {X : VV} {T : Nat → Int32} {R P L S Im Wa Wb Z U D E v : VV} (X0 : VV) {lk : Nat → Nat → Nat} (h : INV0 n m X T R P L S Im Wa Wb Z U D E v) (lk1 : ∀ p t, p < n → t < m → lk p t ≤ 99) (lk2 : ∀ p t, p < n → t < m → ∀ L', LF L L' → ∃ L2, f_X0_manner N P L' S Wa 0 (nI p) (nI t) 0 = some (nI (lk p t), L2) ∧ LF L L2) {cap : Nat} (hc : cap ≤ 198) (ec : P.2.1 6 0 + P.2.1 6 4 = nI cap) :
    ∃ L' D', f_X11_findBest N X0 P L S Wa D = some (L', D') ∧ LF L L' ∧ gvR n m P D' ∧ D'.1 5 = nI (bsF m (szP P) (okX v) (fun p t => lk p t * szP P p) n 0 (fun _ => cap) 0 (fun _ => -1) (0, fun _ => -1)).1 - 1 ∧ ∀ q, q < n → D'.2.1 3 q = (bsF m (szP P) (okX v) (fun p t => lk p t * szP P p) n 0 (fun _ => cap) 0 (fun _ => -1) (0, fun _ => -1)).2 q := by
  obtain ⟨hP, hS, hT, hIm, hWa, hWb, hRf, hH, hU, hRd, hG, hE⟩ := id h
  have hn := PR_n hP
  have hm := PR_m hP
  have hw : ∀ q t, q < n → t < m → lk q t * szP P q ≤ 891 := fun q t hq ht => Nat.mul_le_mul (lk1 q t hq ht) (PR_sz hP hq).2.2
  obtain ⟨tg, htg⟩ : ∃ tg : Nat → Nat → Int32, tg = fun p t => if okX v p t = true then nI (lk p t * szP P p) else -1 := ⟨_, rfl⟩
  have tgE : ∀ (D' : VV), (∀ q t, q < n → t < m → D'.2.1 (100 + q) t = tg q t) → ∀ q t, q < n → t < m → (okX v q t = false ∧ D'.2.1 (100 + q) t = -1) ∨ (okX v q t = true ∧ D'.2.1 (100 + q) t = nI (lk q t * szP P q)) := by
    intro D' hD' q t hq ht
    have := hD' q t hq ht
    rw [htg] at this
    by_cases c : okX v q t = true
    · right; exact ⟨c, this.trans (if_pos c)⟩
    · left
      refine ⟨?_, this.trans (if_neg c)⟩
      cases hk : okX v q t with
      | false => rfl
      | true => exact absurd hk c
  -- the state while it is told
  have TD : ∀ (i j : Nat) (D1 : VV), ((D1.1 6 = 0 ∨ D1.1 6 = 1) ∧ D1.1 5 = D.1 5 ∧ D1.2.1 3 = D.2.1 3 ∧ (∀ q t, q < n → t < m → (q < i ∨ (q = i ∧ t < j)) → D1.2.1 (100 + q) t = tg q t) ∧ (D1.1 6 = 1 → D.1 6 = 1 ∧ ∀ q t, q < n → t < m → D1.2.1 (100 + q) t = D.2.1 (100 + q) t)) → i < n → j < m → ∃ D2, f_X1_tell D1 (nI i) (nI j) (tg i j) = some D2 ∧ ((D2.1 6 = 0 ∨ D2.1 6 = 1) ∧ D2.1 5 = D.1 5 ∧ D2.2.1 3 = D.2.1 3 ∧ (∀ q t, q < n → t < m → (q < i ∨ (q = i ∧ t < j + 1)) → D2.2.1 (100 + q) t = tg q t) ∧ (D2.1 6 = 1 → D.1 6 = 1 ∧ ∀ q t, q < n → t < m → D2.2.1 (100 + q) t = D.2.1 (100 + q) t)) := by
    intro i j D1 ⟨t1, t2, t3, t4, t5⟩ hi hj
    have smE : ∀ (x : Int32) q t, (sm (si D1 6 x) i j (tg i j)).2.1 (100 + q) t = if q = i ∧ t = j then tg i j else D1.2.1 (100 + q) t := by
      intro x q t
      show (if 100 ≤ 100 + q then (if 100 + q = 100 + i then upd (D1.2.1 (100 + i)) j (tg i j) else D1.2.1 (100 + q)) else D1.2.1 (100 + q)) t = _
      rw [if_pos (by omega)]
      by_cases e : q = i
      · subst e
        rw [if_pos rfl, pu_upd]
        by_cases et : t = j
        · rw [if_pos et, if_pos ⟨rfl, et⟩]
        · rw [if_neg et, if_neg (fun h => et h.2)]
      · rw [if_neg (by omega), if_neg (fun h => e h.1)]
    have told : ∀ (x : Int32) q t, q < n → t < m → (q < i ∨ (q = i ∧ t < j + 1)) → (sm (si D1 6 x) i j (tg i j)).2.1 (100 + q) t = tg q t := by
      intro x q t hq ht hh
      rw [smE]
      by_cases e : q = i ∧ t = j
      · rw [if_pos e, e.1, e.2]
      · rw [if_neg e]; exact t4 q t hq ht (by omega)
    unfold f_X1_tell f_X1_tell_b44 f_X1_tell_b45 gbz
    rw [if_neg (nI_pos (show i < 2 ^ 31 by omega)), if_neg (show ¬ (8 : Int32) ≤ nI (i) from nI_ge (a := i) (b := 8) (by omega) (by omega)), if_neg (nI_pos (show j < 2 ^ 31 by omega)), if_pos (show nI (j) < (3 : Int32) from nI_lt (a := j) (b := 3) (by omega) (by omega))]
    simp only [pu_gin (show i < 8 by omega) (show 8 < 2 ^ 31 by omega), pu_gin (show j < 3 by omega) (show 3 < 2 ^ 31 by omega), nI_clamp (show i < 2 ^ 31 by omega), nI_clamp (show j < 2 ^ 31 by omega), if_pos (show (0 : Int32) = 0 ∨ (0 : Int32) = 1 from Or.inl rfl), if_pos (show (1 : Int32) = 0 ∨ (1 : Int32) = 1 from Or.inr rfl)]
    by_cases c : D1.1 6 = 0
    · rw [if_pos c]
      exact ⟨_, rfl, Or.inl rfl, t2, t3, told 0, fun h => absurd h (by show ¬ (0 : Int32) = 1; decide)⟩
    · rw [if_neg c]
      by_cases c2 : D1.2.1 (100 + i) j = tg i j
      · rw [if_pos c2]
        have h6 : D1.1 6 = 1 := by
          rcases t1 with h | h
          · exact absurd h c
          · exact h
        refine ⟨_, rfl, Or.inr rfl, t2, t3, told 1, fun _ => ⟨(t5 h6).1, fun q t hq ht => ?_⟩⟩
        rw [smE]
        by_cases e : q = i ∧ t = j
        · rw [if_pos e, e.1, e.2, ← c2]; exact (t5 h6).2 i j hi hj
        · rw [if_neg e]; exact (t5 h6).2 q t hq ht
      · rw [if_neg c2]
        exact ⟨_, rfl, Or.inl rfl, t2, t3, told 0, fun h => absurd h (by show ¬ (0 : Int32) = 1; decide)⟩
  unfold f_X11_findBest
  have hG6 : D.1 6 = 0 ∨ D.1 6 = 1 := by
    rcases hG with a | ⟨a, _⟩
    · exact Or.inl a
    · exact Or.inr a
  obtain ⟨r, r1, r2⟩ := itr1 (A := fun q : Int32 × VV × VV => f_X11_findBest_s2 N X0 P q.2.1 S Wa q.2.2 q.1) (fun x y => ∃ i, x = n - i ∧ i ≤ n ∧ y.1 = nI i ∧ LF L y.2.1 ∧ ((y.2.2.1 6 = 0 ∨ y.2.2.1 6 = 1) ∧ y.2.2.1 5 = D.1 5 ∧ y.2.2.2.1 3 = D.2.1 3 ∧ (∀ q t, q < n → t < m → (q < i ∨ (q = i ∧ t < 0)) → y.2.2.2.1 (100 + q) t = tg q t) ∧ (y.2.2.1 6 = 1 → D.1 6 = 1 ∧ ∀ q t, q < n → t < m → y.2.2.2.1 (100 + q) t = D.2.1 (100 + q) t))) (fun r => LF L r.1 ∧ gvR n m P r.2 ∧ r.2.1 5 = nI (bsF m (szP P) (okX v) (fun p t => lk p t * szP P p) n 0 (fun _ => cap) 0 (fun _ => -1) (0, fun _ => -1)).1 - 1 ∧ ∀ q, q < n → r.2.2.1 3 q = (bsF m (szP P) (okX v) (fun p t => lk p t * szP P p) n 0 (fun _ => cap) 0 (fun _ => -1) (0, fun _ => -1)).2 q) (by
    intro x y hR
    obtain ⟨y1, L1, D1⟩ := y
    obtain ⟨i, hx, hi, f1, f2, f3⟩ := hR
    simp only at f1 f2 f3
    subst f1
    simp only
    unfold f_X11_findBest_s2
    rw [PR_P0 hP]
    rcases Nat.lt_or_ge i n with hlt | hge
    · left
      rw [if_neg (nI_ge hlt (by omega))]
      obtain ⟨r, r1, r2⟩ := itr1 (A := fun q : Int32 × VV × VV => f_X11_findBest_s15 N X0 P q.2.1 S Wa q.2.2 (nI i) q.1) (fun x y => ∃ j, x = m - j ∧ j ≤ m ∧ y.1 = nI j ∧ LF L y.2.1 ∧ ((y.2.2.1 6 = 0 ∨ y.2.2.1 6 = 1) ∧ y.2.2.1 5 = D.1 5 ∧ y.2.2.2.1 3 = D.2.1 3 ∧ (∀ q t, q < n → t < m → (q < i ∨ (q = i ∧ t < j)) → y.2.2.2.1 (100 + q) t = tg q t) ∧ (y.2.2.1 6 = 1 → D.1 6 = 1 ∧ ∀ q t, q < n → t < m → y.2.2.2.1 (100 + q) t = D.2.1 (100 + q) t))) (fun r => ∃ L2 D2, r = .inl (nI (i + 1), L2, D2) ∧ LF L L2 ∧ ((D2.1 6 = 0 ∨ D2.1 6 = 1) ∧ D2.1 5 = D.1 5 ∧ D2.2.1 3 = D.2.1 3 ∧ (∀ q t, q < n → t < m → (q < i + 1 ∨ (q = i + 1 ∧ t < 0)) → D2.2.1 (100 + q) t = tg q t) ∧ (D2.1 6 = 1 → D.1 6 = 1 ∧ ∀ q t, q < n → t < m → D2.2.1 (100 + q) t = D.2.1 (100 + q) t))) (by
        intro x y hR
        obtain ⟨y1, L2, D2⟩ := y
        obtain ⟨j, hx, hj, e1, e2, e3⟩ := hR
        simp only at e1 e2 e3
        subst e1
        simp only
        unfold f_X11_findBest_s15
        rw [PR_P3 hP]
        rcases Nat.lt_or_ge j m with hl2 | hg2
        · left
          obtain ⟨D3, u1, u2⟩ := TD i j D2 e3 hlt hl2
          have fin : ∀ L3, LF L L3 → f_X11_findBest_b87 N X0 P L3 S Wa D2 (nI i) (nI j) (tg i j) = some (.inl (nI (j + 1), L3, D3)) := fun L3 _ => by unfold f_X11_findBest_b87; rw [u1, pu_bnd, nI_1]
          have eok : okX v i j = if v.2.1 7 i < v.2.1 10 j + v.2.1 3 3 then false else true := rfl
          rw [if_neg (nI_ge hl2 (by omega)), pu_gin (show j < 3 by omega) (show 3 < 2 ^ 31 by omega), nI_clamp (show j < 2 ^ 31 by omega), tra4 hP hlt, pu_bnd, (PR_sR hP hl2).1, (PR_sE hP).2.1]
          by_cases c : v.2.1 7 i < v.2.1 10 j + v.2.1 3 3
          · have ht : tg i j = -1 := by rw [htg]; show (if okX v i j = true then nI (lk i j * szP P i) else -1) = -1; rw [eok, if_pos c, if_neg (by decide)]
            rw [if_pos c]
            unfold f_X11_findBest_b62
            rw [if_pos rfl, ← ht, fin L2 e2]
            exact ⟨m - (j + 1), _, by omega, rfl, j + 1, rfl, hl2, rfl, e2, u2⟩
          · have ht : tg i j = nI (lk i j * szP P i) := by rw [htg]; show (if okX v i j = true then nI (lk i j * szP P i) else -1) = _; rw [eok, if_neg c, if_pos rfl]
            obtain ⟨L3, l1, l2⟩ := lk2 i j hlt hl2 L2 e2
            rw [if_neg c]
            unfold f_X11_findBest_b62 f_X11_likeNow
            rw [if_neg (by decide), l1, pu_bnd, pu_bnd, tra0 hP hlt, pu_bnd, (PR_sz hP hlt).1, pk_mul, ← ht, fin L3 l2]
            exact ⟨m - (j + 1), _, by omega, rfl, j + 1, rfl, hl2, rfl, l2, u2⟩
        · right
          have : j = m := by omega
          subst this
          rw [if_pos (nI_le (Nat.le_refl j) (by omega)), pu_inrO, nI_1]
          exact ⟨_, rfl, L2, D2, rfl, e2, e3.1, e3.2.1, e3.2.2.1, fun q t hq ht hh => e3.2.2.2.1 q t hq ht (by omega), e3.2.2.2.2⟩) N m (0, L1, D1) (by omega) ⟨0, rfl, by omega, rfl, f2, f3⟩
      obtain ⟨L2, D2, rfl, q1, q2⟩ := r2
      rw [r1]
      exact ⟨n - (i + 1), _, by omega, rfl, i + 1, rfl, hlt, rfl, q1, q2⟩
    · right
      have : i = n := by omega
      subst this
      obtain ⟨t1, t2, t3, t4, t5⟩ := f3
      have tall : ∀ q t, q < i → t < m → D1.2.1 (100 + q) t = tg q t := fun q t hq ht => t4 q t hq ht (Or.inl hq)
      rw [if_pos (nI_le (Nat.le_refl i) (by omega))]
      rcases t1 with t0 | t0
      · obtain ⟨D', r1, r2, r3, r4, r5⟩ := findR N hN hP hw hc ec t0 (tgE D1 tall)
        rw [r1, pu_bnd, pu_inrO]
        exact ⟨_, rfl, f2, Or.inr ⟨r2, cap, _, _, ec, hc, hw, r3, r4, r5⟩, r4, r5⟩
      · obtain ⟨a1, a2⟩ := t5 t0
        rcases hG with b | ⟨b, cap', ok', wt', c1, c2, c3, c4, c5, c6⟩
        · rw [b] at a1; exact absurd a1 (by decide)
        · have ecap : cap' = cap := (nI_eq (by omega) (by omega)).mp (c1.symm.trans ec)
          subst ecap
          have eqb : bsF m (szP P) ok' wt' i 0 (fun _ => cap') 0 (fun _ => -1) (0, fun _ => -1) = bsF m (szP P) (okX v) (fun p t => lk p t * szP P p) i 0 (fun _ => cap') 0 (fun _ => -1) (0, fun _ => -1) := by
            refine bs_congr (n := i) (fun q t hq ht => ?_) i 0 _ _ _ _ (by omega)
            have x1 := tgE D1 tall q t hq ht
            have x2 := c4 q t hq ht
            rw [← a2 q t hq ht] at x2
            have n1 : ∀ w, w ≤ 891 → ¬ nI w = -1 := fun w hw h => nI_pos (show w < 2 ^ 31 by omega) (by rw [h]; decide)
            rcases x1 with ⟨o1, o2⟩ | ⟨o1, o2⟩
            · rcases x2 with ⟨o3, o4⟩ | ⟨o3, o4⟩
              · exact ⟨by rw [o1, o3], fun h => absurd h (by rw [o3]; decide)⟩
              · exact absurd (o4.symm.trans o2) (n1 _ (c3 q t hq ht))
            · rcases x2 with ⟨o3, o4⟩ | ⟨o3, o4⟩
              · exact absurd (o2.symm.trans o4) (n1 _ (hw q t hq ht))
              · refine ⟨by rw [o1, o3], fun _ => ?_⟩
                have y1 := c3 q t hq ht
                have y2 := hw q t hq ht
                exact (nI_eq (by omega) (by omega)).mp (o4.symm.trans o2)
          have fk : f_X1_find N D1 P = some D1 := by unfold f_X1_find; rw [if_neg (by rw [t0]; decide)]
          have w5 : D1.1 5 = nI (bsF m (szP P) (okX v) (fun p t => lk p t * szP P p) i 0 (fun _ => cap') 0 (fun _ => -1) (0, fun _ => -1)).1 - 1 := by rw [t2, c5, eqb]
          have w6 : ∀ q, q < i → D1.2.1 3 q = (bsF m (szP P) (okX v) (fun p t => lk p t * szP P p) i 0 (fun _ => cap') 0 (fun _ => -1) (0, fun _ => -1)).2 q := fun q hq => by rw [t3, c6 q hq, eqb]
          rw [fk, pu_bnd, pu_inrO]
          exact ⟨_, rfl, f2, Or.inr ⟨t0, cap', _, _, ec, hc, hw, tgE D1 tall, w5, w6⟩, w5, w6⟩) N n (0, L, D) (by omega) ⟨0, rfl, by omega, rfl, LF.refl _, hG6, rfl, rfl, fun q t hq ht hh => by omega, fun h => ⟨h, fun _ _ _ _ => rfl⟩⟩
  obtain ⟨L', D'⟩ := r
  exact ⟨L', D', r1, r2⟩
theorem st_bestSum (N : Nat) (hN : 66 < N) : ST_bestSum N INV := by
  intro cv T B v hI
  obtain ⟨n, m, h⟩ := hI
  have h' := inv_kv h (LF.refl _) (KV_0 v)
  obtain ⟨lk, lk1, lk2⟩ := likeU N hN h'
  obtain ⟨cap, hc, ec, ec'⟩ := capR h'.1
  obtain ⟨L', D', g1, g2, g3, g4, g5⟩ := findBestR N hN (cv 0) h' lk1 (fun p t hp ht => (lk2 p t hp ht).1) hc ec'
  obtain ⟨v', k1, k2, k3, k4⟩ := layBestR N hN h'.1 lk1 (fun p t hp ht => (lk2 p t hp ht).2) hc ec
  unfold f_X11_bestSum f_X12_bestSum
  rw [g1, k1, pu_bnd, pu_bnd]
  obtain ⟨hP, hS, hT, hIm, hWa, hWb, hRf, hH, hU, hRd, hG, hE⟩ := inv_kv h' g2 k2
  exact ⟨D'.1 5, L', D', v', rfl, by rw [g4, k3], n, m, hP, hS, hT, hIm, hWa, hWb, hRf, hH, hU, hRd, g3, hE⟩
theorem st_best (N : Nat) (hN : 66 < N) : ST_best N INV := by
  intro cv T B v a1 hI
  obtain ⟨n, m, h⟩ := hI
  have h' := inv_kv h (LF.refl _) (KV_0 v)
  have hn := PR_n h'.1
  unfold f_X11_best f_X12_best
  rcases hasP h'.1 a1 with ⟨p, hp, rfl, e1, e2⟩ | ⟨e1, e2⟩
  · obtain ⟨lk, lk1, lk2⟩ := likeU N hN h'
    obtain ⟨cap, hc, ec, ec'⟩ := capR h'.1
    obtain ⟨L', D', g1, g2, g3, g4, g5⟩ := findBestR N hN (cv 0) h' lk1 (fun p t hp ht => (lk2 p t hp ht).1) hc ec'
    obtain ⟨v', k1, k2, k3, k4⟩ := layBestR N hN h'.1 lk1 (fun p t hp ht => (lk2 p t hp ht).2) hc ec
    simp only [e1, e2, pu_bnd, n10, ↓reduceIte, g1, k1, pu_gin (show p < 8 by omega) (show 8 < 2 ^ 31 by omega), nI_clamp (show p < 2 ^ 31 by omega), g5 p hp, k4 p hp]
    obtain ⟨hP, hS, hT, hIm, hWa, hWb, hRf, hH, hU, hRd, hG, hE⟩ := inv_kv h' g2 k2
    by_cases c : (bsF m (szP (cv 6)) (okX (si v 0 0)) (fun p t => lk p t * szP (cv 6) p) n 0 (fun _ => cap) 0 (fun _ => -1) (0, fun _ => -1)).2 p = -1
    · simp only [if_pos c]
      exact ⟨_, L', D', v', rfl, rfl, n, m, hP, hS, hT, hIm, hWa, hWb, hRf, hH, hU, hRd, g3, hE⟩
    · simp only [if_neg c]
      exact ⟨_, L', D', v', rfl, rfl, n, m, hP, hS, hT, hIm, hWa, hWb, hRf, hH, hU, hRd, g3, hE⟩
  · simp only [e1, e2, pu_bnd, ↓reduceIte]; exact ⟨_, _, _, _, rfl, rfl, n, m, h'⟩
