/-! What holds between two calls. -/
theorem n10 : ((1 : Int32) = 0) = False := eq_false (by decide)
theorem cp_upd {f g : Nat → Int32} {A B i : Nat} (h : ∀ x, f x = if A ≤ x ∧ x < A + i then g (B + (x - A)) else g x) (hd : ¬ (A ≤ B + i ∧ B + i < A + i)) (x : Nat) : upd f (A + i) (f (B + i)) x = if A ≤ x ∧ x < A + (i + 1) then g (B + (x - A)) else g x := by
  rw [pu_upd, h (B + i), if_neg hd]
  by_cases e : x = A + i
  · rw [if_pos e, if_pos ⟨by omega, by omega⟩]
    congr 1; omega
  · rw [if_neg e, h x]
    by_cases hx : A ≤ x ∧ x < A + i
    · rw [if_pos hx, if_pos ⟨by omega, by omega⟩]
    · rw [if_neg hx, if_neg (by omega)]
def cpI (a b i j : Nat) (v w : VV) : Prop := w.1 = v.1 ∧ w.2.2 = v.2.2 ∧ (∀ k, k < 32 ∨ 47 < k → w.2.1 k = v.2.1 k) ∧ (∀ k, 32 ≤ k → k ≤ 36 → ∀ x, w.2.1 k x = if x = a then v.2.1 k b else v.2.1 k x) ∧ (∀ k, 37 ≤ k → k ≤ 41 → ∀ x, w.2.1 k x = if 8 * a ≤ x ∧ x < 8 * a + i then v.2.1 k (8 * b + (x - 8 * a)) else v.2.1 k x) ∧ (∀ k, 42 ≤ k → k ≤ 47 → ∀ x, w.2.1 k x = if 3 * a ≤ x ∧ x < 3 * a + j then v.2.1 k (3 * b + (x - 3 * a)) else v.2.1 k x)
theorem k5 {k a : Nat} (h : a ≤ k) (h' : k ≤ a + 4) : k = a ∨ k = a + 1 ∨ k = a + 2 ∨ k = a + 3 ∨ k = a + 4 := by omega
theorem k6 {k a : Nat} (h : a ≤ k) (h' : k ≤ a + 5) : k = a ∨ k = a + 1 ∨ k = a + 2 ∨ k = a + 3 ∨ k = a + 4 ∨ k = a + 5 := by omega
theorem copiesR (N : Nat) (hN : 66 < N) {a b : Nat} (v : VV) (ha : a < 23) (hb : b < 23) (hab : a ≠ b) : ∃ w, f_X12_copies N v (nI a) (nI b) = some w ∧ cpI a b 8 3 v w := by
  unfold f_X12_copies
  simp only [pu_gin (show a < 23 by omega) (show 23 < 2 ^ 31 by omega), pu_gin (show b < 23 by omega) (show 23 < 2 ^ 31 by omega), nI_clamp (show a < 2 ^ 31 by omega), nI_clamp (show b < 2 ^ 31 by omega)]
  refine itr1 (fun m (s : Int32 × VV) => ∃ i, m = 8 - i ∧ i ≤ 8 ∧ s.1 = nI i ∧ cpI a b i 0 v s.2) (fun w => cpI a b 8 3 v w) ?_ N 8 _ (by omega) ⟨0, rfl, by omega, rfl, ?_⟩
  · intro m s hR
    obtain ⟨s1, w⟩ := s
    obtain ⟨i, hm, hi, hs, h1, h2, h3, h4, h5, h6⟩ := hR
    simp only at hs h1 h2 h3 h4 h5 h6
    subst hs
    simp only
    unfold f_X12_copies_s62
    rcases Nat.lt_or_ge i 8 with hlt | hge
    · left
      rw [if_neg (show ¬ (8 : Int32) ≤ nI (i) from nI_ge (a := i) (b := 8) (by omega) (by omega))]
      simp only [pu_8, pu_gin (show 8 * a + i < 184 by omega) (show 184 < 2 ^ 31 by omega), pu_gin (show 8 * b + i < 184 by omega) (show 184 < 2 ^ 31 by omega), nI_clamp (show 8 * a + i < 2 ^ 31 by omega), nI_clamp (show 8 * b + i < 2 ^ 31 by omega), nI_1]
      refine ⟨8 - (i + 1), _, by omega, rfl, i + 1, rfl, by omega, rfl, h1, h2, ?_, ?_, ?_, ?_⟩
      · intro k hk
        simp only [pu_sr2, if_neg (show ¬ k = 37 by omega), if_neg (show ¬ k = 38 by omega), if_neg (show ¬ k = 39 by omega), if_neg (show ¬ k = 40 by omega), if_neg (show ¬ k = 41 by omega)]
        exact h3 k hk
      · intro k hk hk' x
        rcases k5 hk hk' with rfl | rfl | rfl | rfl | rfl
        · exact h4 32 (by omega) (by omega) x
        · exact h4 33 (by omega) (by omega) x
        · exact h4 34 (by omega) (by omega) x
        · exact h4 35 (by omega) (by omega) x
        · exact h4 36 (by omega) (by omega) x
      · intro k hk hk' x
        rcases k5 hk hk' with rfl | rfl | rfl | rfl | rfl
        · exact cp_upd (h5 37 (by omega) (by omega)) (by omega) x
        · exact cp_upd (h5 38 (by omega) (by omega)) (by omega) x
        · exact cp_upd (h5 39 (by omega) (by omega)) (by omega) x
        · exact cp_upd (h5 40 (by omega) (by omega)) (by omega) x
        · exact cp_upd (h5 41 (by omega) (by omega)) (by omega) x
      · intro k hk hk' x
        rcases k6 hk hk' with rfl | rfl | rfl | rfl | rfl | rfl
        · exact h6 42 (by omega) (by omega) x
        · exact h6 43 (by omega) (by omega) x
        · exact h6 44 (by omega) (by omega) x
        · exact h6 45 (by omega) (by omega) x
        · exact h6 46 (by omega) (by omega) x
        · exact h6 47 (by omega) (by omega) x
    · right
      have : i = 8 := by omega
      subst this
      rw [if_pos (show (8 : Int32) ≤ nI 8 from nI_le (Nat.le_refl 8) (by omega))]
      obtain ⟨r, hr, hq⟩ := itr1 (A := fun q : Int32 × VV => f_X12_copies_s162 N q.2 (nI a) (nI b) q.1) (fun m (s : Int32 × VV) => ∃ j, m = 3 - j ∧ j ≤ 3 ∧ s.1 = nI j ∧ cpI a b 8 j v s.2) (fun w => cpI a b 8 3 v w) (by
        intro m s hR
        obtain ⟨s1, w⟩ := s
        obtain ⟨i, hm, hi, hs, h1, h2, h3, h4, h5, h6⟩ := hR
        simp only at hs h1 h2 h3 h4 h5 h6
        subst hs
        simp only
        unfold f_X12_copies_s162
        rcases Nat.lt_or_ge i 3 with hlt | hge
        · left
          rw [if_neg (show ¬ (3 : Int32) ≤ nI (i) from nI_ge (a := i) (b := 3) (by omega) (by omega))]
          simp only [pu_3, pu_gin (show 3 * a + i < 69 by omega) (show 69 < 2 ^ 31 by omega), pu_gin (show 3 * b + i < 69 by omega) (show 69 < 2 ^ 31 by omega), nI_clamp (show 3 * a + i < 2 ^ 31 by omega), nI_clamp (show 3 * b + i < 2 ^ 31 by omega), nI_1]
          refine ⟨3 - (i + 1), _, by omega, rfl, i + 1, rfl, by omega, rfl, h1, h2, ?_, ?_, ?_, ?_⟩
          · intro k hk
            simp only [pu_sr2, if_neg (show ¬ k = 42 by omega), if_neg (show ¬ k = 43 by omega), if_neg (show ¬ k = 44 by omega), if_neg (show ¬ k = 45 by omega), if_neg (show ¬ k = 46 by omega), if_neg (show ¬ k = 47 by omega)]
            exact h3 k hk
          · intro k hk hk' x
            rcases k5 hk hk' with rfl | rfl | rfl | rfl | rfl
            · exact h4 32 (by omega) (by omega) x
            · exact h4 33 (by omega) (by omega) x
            · exact h4 34 (by omega) (by omega) x
            · exact h4 35 (by omega) (by omega) x
            · exact h4 36 (by omega) (by omega) x
          · intro k hk hk' x
            rcases k5 hk hk' with rfl | rfl | rfl | rfl | rfl
            · exact h5 37 (by omega) (by omega) x
            · exact h5 38 (by omega) (by omega) x
            · exact h5 39 (by omega) (by omega) x
            · exact h5 40 (by omega) (by omega) x
            · exact h5 41 (by omega) (by omega) x
          · intro k hk hk' x
            rcases k6 hk hk' with rfl | rfl | rfl | rfl | rfl | rfl
            · exact cp_upd (h6 42 (by omega) (by omega)) (by omega) x
            · exact cp_upd (h6 43 (by omega) (by omega)) (by omega) x
            · exact cp_upd (h6 44 (by omega) (by omega)) (by omega) x
            · exact cp_upd (h6 45 (by omega) (by omega)) (by omega) x
            · exact cp_upd (h6 46 (by omega) (by omega)) (by omega) x
            · exact cp_upd (h6 47 (by omega) (by omega)) (by omega) x
        · right
          have : i = 3 := by omega
          subst this
          rw [if_pos (show (3 : Int32) ≤ nI 3 from nI_le (Nat.le_refl 3) (by omega))]
          exact ⟨_, rfl, h1, h2, h3, h4, h5, h6⟩) N 3 (0, w) (by omega) ⟨0, rfl, by omega, rfl, h1, h2, h3, h4, h5, h6⟩
      exact ⟨r, by rw [hr]; rfl, hq⟩
  · refine ⟨rfl, rfl, ?_, ?_, ?_, ?_⟩
    · intro k hk
      simp only [pu_sr2, if_neg (show ¬ k = 32 by omega), if_neg (show ¬ k = 33 by omega), if_neg (show ¬ k = 34 by omega), if_neg (show ¬ k = 35 by omega), if_neg (show ¬ k = 36 by omega)]
    · intro k hk hk' x
      rcases k5 hk hk' with rfl | rfl | rfl | rfl | rfl <;> rfl
    · intro k hk hk' x
      rw [if_neg (by omega)]
      simp only [pu_sr2, if_neg (show ¬ k = 32 by omega), if_neg (show ¬ k = 33 by omega), if_neg (show ¬ k = 34 by omega), if_neg (show ¬ k = 35 by omega), if_neg (show ¬ k = 36 by omega)]
    · intro k hk hk' x
      rw [if_neg (by omega)]
      simp only [pu_sr2, if_neg (show ¬ k = 32 by omega), if_neg (show ¬ k = 33 by omega), if_neg (show ¬ k = 34 by omega), if_neg (show ¬ k = 35 by omega), if_neg (show ¬ k = 36 by omega)]
theorem cp_FR {a b : Nat} {v w : VV} (h : cpI a b 8 3 v w) : FR a v w := ⟨fun k _ _ _ _ => by rw [h.1], fun k hk => h.2.2.1 k hk, fun k j hk hk' hj => by rw [h.2.2.2.1 k hk hk' j, if_neg hj], fun k j hk hk' hj => by rw [h.2.2.2.2.1 k hk hk' j, if_neg (by omega)], fun k j hk hk' hj => by rw [h.2.2.2.2.2 k hk hk' j, if_neg (by omega)]⟩
/-- car c' of v' is as car c of v -/
def carS (c c' : Nat) (v v' : VV) : Prop := v'.2.1 10 = v.2.1 10 ∧ (∀ k, 32 ≤ k → k ≤ 36 → v'.2.1 k c' = v.2.1 k c) ∧ (∀ k, 37 ≤ k → k ≤ 41 → ∀ p, p < 8 → v'.2.1 k (8 * c' + p) = v.2.1 k (8 * c + p)) ∧ (∀ k, 42 ≤ k → k ≤ 47 → ∀ u, u < 3 → v'.2.1 k (3 * c' + u) = v.2.1 k (3 * c + u))
theorem cs_refl (c : Nat) (v : VV) : carS c c v v := ⟨rfl, fun _ _ _ => rfl, fun _ _ _ _ _ => rfl, fun _ _ _ _ _ => rfl⟩
theorem cs_cp {a b : Nat} {v w : VV} (h : cpI a b 8 3 v w) : carS b a v w := ⟨h.2.2.1 10 (by omega), fun k hk hk' => by rw [h.2.2.2.1 k hk hk', if_pos rfl], fun k hk hk' p hp => by rw [h.2.2.2.2.1 k hk hk', if_pos ⟨by omega, by omega⟩, show 8 * b + (8 * a + p - 8 * a) = 8 * b + p by omega], fun k hk hk' p hp => by rw [h.2.2.2.2.2 k hk hk', if_pos ⟨by omega, by omega⟩, show 3 * b + (3 * a + p - 3 * a) = 3 * b + p by omega]⟩
theorem cs_FR {a c : Nat} {v w : VV} (h : FR a v w) (hc : c ≠ a) : carS c c v w := ⟨h.2.1 10 (by omega), fun k hk hk' => h.2.2.1 k c hk hk' hc, fun k hk hk' p hp => h.2.2.2.1 k _ hk hk' (by omega), fun k hk hk' p hp => h.2.2.2.2 k _ hk hk' (by omega)⟩
theorem cs_tr {a b c : Nat} {u v w : VV} (h : carS a b u v) (h' : carS b c v w) : carS a c u w := ⟨h'.1.trans h.1, fun k hk hk' => (h'.2.1 k hk hk').trans (h.2.1 k hk hk'), fun k hk hk' p hp => (h'.2.2.1 k hk hk' p hp).trans (h.2.2.1 k hk hk' p hp), fun k hk hk' p hp => (h'.2.2.2 k hk hk' p hp).trans (h.2.2.2 k hk hk' p hp)⟩
theorem car_cs {aw : Prop} {c c' : Nat} {S v v' : VV} (h : carR aw c S v) (hs : carS c c' v v') : carR aw c' S v' := by
  obtain ⟨⟨d1, d2, d3, d4, d5⟩, a2, a3, a4, a5, a6, a7, a8⟩ := h
  obtain ⟨_, s1, s2, s3⟩ := hs
  refine ⟨⟨?_, ?_, ?_, ?_, ?_⟩, fun p hp => ?_, fun p hp => ?_, fun p hp => ?_, fun w p hp => ?_, fun p hp => ?_, fun p hp => ?_, fun p hp => ?_⟩
  · rw [s1 32 (by omega) (by omega)]; exact d1
  · rw [s1 36 (by omega) (by omega)]; exact d2
  · rw [s1 33 (by omega) (by omega)]; exact d3
  · rw [s1 34 (by omega) (by omega)]; exact d4
  · rw [s1 35 (by omega) (by omega)]; exact d5
  · rw [s2 37 (by omega) (by omega) p hp]; exact a2 p hp
  · rw [s2 38 (by omega) (by omega) p hp]; exact a3 p hp
  · rw [s2 39 (by omega) (by omega) p hp]; exact a4 p hp
  · rw [s2 40 (by omega) (by omega) p hp]; exact a5 w p hp
  · rw [s2 41 (by omega) (by omega) p hp]; exact a6 p hp
  · rw [s3 42 (by omega) (by omega) p hp]; exact a7 p hp
  · rw [s3 43 (by omega) (by omega) p hp]; exact a8 p hp
/-- the latest day, if one was seen -/
def seenR (m c : Nat) (S v : VV) : Prop := (S.1 12 = 0 ∧ ∀ u, u < 3 → v.2.1 44 (3 * c + u) = -1 ∧ v.2.1 45 (3 * c + u) = -1 ∧ v.2.1 46 (3 * c + u) = -1 ∧ v.2.1 47 (3 * c + u) = -1) ∨ (S.1 12 = 1 ∧ ∀ u, u < m → ¬ v.2.1 44 (3 * c + u) < 0 ∧ S.2.1 13 u = v.2.1 44 (3 * c + u) ∧ S.2.1 14 u = v.2.1 44 (3 * c + u) - v.2.1 10 u ∧ S.2.1 15 u = v.2.1 45 (3 * c + u) ∧ S.2.1 16 u = v.2.1 46 (3 * c + u) ∧ S.2.1 17 u = v.2.1 47 (3 * c + u))
theorem seen_cs {m c c' : Nat} {S v v' : VV} (hm : m ≤ 3) (h : seenR m c S v) (hs : carS c c' v v') : seenR m c' S v' := by
  obtain ⟨s0, _, _, s3⟩ := hs
  rcases h with ⟨h1, h2⟩ | ⟨h1, h2⟩
  · refine Or.inl ⟨h1, fun u hu => ?_⟩
    rw [s3 44 (by omega) (by omega) u hu, s3 45 (by omega) (by omega) u hu, s3 46 (by omega) (by omega) u hu, s3 47 (by omega) (by omega) u hu]
    exact h2 u hu
  · refine Or.inr ⟨h1, fun u hu => ?_⟩
    rw [s0, s3 44 (by omega) (by omega) u (by omega), s3 45 (by omega) (by omega) u (by omega), s3 46 (by omega) (by omega) u (by omega), s3 47 (by omega) (by omega) u (by omega)]
    exact h2 u hu
/-- what a state keeps to -/
def okS (n m : Nat) (S : VV) : Prop := (∀ u, u < 3 → ∃ s : Nat, s ≤ 3 ∧ S.2.1 3 u = nI s) ∧ (∀ p, p < 8 → S.2.1 2 p = -1 ∨ ∃ u : Nat, u < m ∧ S.2.1 2 p = nI u) ∧ (∀ p, n ≤ p → p < 8 → S.2.1 6 p = 0) ∧ (∃ d : Nat, d ≤ 9999 ∧ S.1 0 = nI d)
def stR (n m c : Nat) (S v : VV) : Prop := carR True c S v ∧ seenR m c S v ∧ okS n m S
theorem st_cs {n m c c' : Nat} {S v v' : VV} (hm : m ≤ 3) (h : stR n m c S v) (hs : carS c c' v v') : stR n m c' S v' := ⟨car_cs h.1 hs, seen_cs hm h.2.1 hs, h.2.2⟩
def bytR (x y : Int32) : Prop := ∃ b : Nat, b < 256 ∧ y = nI b ∧ x = if b < 128 then nI b else nI b - 256
def tpR (X : VV) (T : Nat → Int32) (v : VV) : Prop := ∃ k : Nat, k ≤ 700 ∧ X.1 1 = nI k ∧ v.1 2 = nI k ∧ ∀ i, i < k → bytR (T i) (v.2.1 1 i)
def imR (n m : Nat) (X Im v : VV) : Prop := (X.1 6 = 0 ∧ v.1 48 = 0) ∨ (X.1 6 = 1 ∧ v.1 48 = 1 ∧ stR n m 2 Im v)
def waR (Y : VV) (bn : Int32) : Prop := (Y.1 0 = bn ∧ Y.1 1 = 0 ∧ Y.1 2 = 0 ∧ Y.1 3 = -1 ∧ Y.1 4 = -1 ∧ Y.1 5 = 0 ∧ Y.1 6 = 0) ∧ ∀ u, u < 3 → Y.2.1 7 u = 0
def rfR (v : VV) : Prop := (v.1 50 = 0 ∧ v.1 51 = -1 ∧ v.1 52 = 0 ∧ v.1 53 = -1) ∧ ∀ u, u < 3 → v.2.1 54 u = 0
def undS (Z : VV) (i : Nat) (S : VV) : VV := if Z.2.1 0 i = 0 then sr S 2 (Z.2.1 1 i).toNatClampNeg (Z.2.1 2 i) else if Z.2.1 0 i = 1 then sr S 3 (Z.2.1 1 i).toNatClampNeg (Z.2.1 2 i) else sr S 4 (Z.2.1 1 i).toNatClampNeg (Z.2.1 2 i)
def entB (Z : VV) (i : Nat) : Prop := (Z.2.1 0 i = 0 ∧ ∃ p : Nat, p < 8 ∧ Z.2.1 1 i = nI p) ∨ (Z.2.1 0 i = 1 ∧ ∃ p : Nat, p < 3 ∧ Z.2.1 1 i = nI p) ∨ (Z.2.1 0 i = 2 ∧ ∃ p : Nat, p < 3 ∧ Z.2.1 1 i = nI p)
/-- what can be undone: each car of the reference's is the state with so much undone -/
def hsR (n m : Nat) (Z v : VV) : Nat → VV → Prop
  | 0, _ => True
  | i + 1, S => entB Z i ∧ stR n m (3 + i) (undS Z i S) v ∧ hsR n m Z v i (undS Z i S)
theorem hs_tr {n m : Nat} {Z Z' v v' : VV} (hm : m ≤ 3) : ∀ (h : Nat) (S : VV), (∀ i, i < h → Z'.2.1 0 i = Z.2.1 0 i ∧ Z'.2.1 1 i = Z.2.1 1 i ∧ Z'.2.1 2 i = Z.2.1 2 i) → (∀ i, i < h → carS (3 + i) (3 + i) v v') → hsR n m Z v h S → hsR n m Z' v' h S := by
  intro h
  induction h with
  | zero => intro S _ _ _; exact trivial
  | succ h ih =>
    intro S hz hc hs
    obtain ⟨h1, h2, h3⟩ := hs
    obtain ⟨e0, e1, e2⟩ := hz h (by omega)
    have hu : undS Z' h S = undS Z h S := by unfold undS; rw [e0, e1, e2]
    refine ⟨?_, ?_, ?_⟩
    · unfold entB at *; rw [e0, e1]; exact h1
    · rw [hu]; exact st_cs hm h2 (hc h (by omega))
    · rw [hu]; exact ih _ (fun i hi => hz i (by omega)) (fun i hi => hc i (by omega)) h3
theorem hH_tr {n m : Nat} {Z S v v' : VV} (hm : m ≤ 3) (h49 : v'.1 49 = v.1 49) (hc : ∀ i, carS (3 + i) (3 + i) v v') (h : ∃ h : Nat, h ≤ 20 ∧ Z.1 3 = nI h ∧ v.1 49 = nI h ∧ hsR n m Z v h S) : ∃ h : Nat, h ≤ 20 ∧ Z.1 3 = nI h ∧ v'.1 49 = nI h ∧ hsR n m Z v' h S := by
  obtain ⟨h, h1, h2, h3, h4⟩ := h
  exact ⟨h, h1, h2, h49.trans h3, hs_tr hm h S (fun i _ => ⟨rfl, rfl, rfl⟩) (fun i _ => hc i) h4⟩
theorem cs_sr {c : Nat} {v : VV} (k j : Nat) (x : Int32) (hk : 47 < k) : carS c c v (sr v k j x) := ⟨by rw [pu_sr2, if_neg (by omega)], fun q h1 h2 => by rw [pu_sr2, if_neg (by omega)], fun q h1 h2 p _ => by rw [pu_sr2, if_neg (by omega)], fun q h1 h2 p _ => by rw [pu_sr2, if_neg (by omega)]⟩
def ntR (m : Nat) (U v : VV) : Prop := ∃ k : Nat, k ≤ 24 ∧ U.1 4 = nI k ∧ v.1 64 = nI k ∧ U.1 5 = v.1 65 ∧ (v.1 65 = -1 ∨ ∃ j : Nat, j ≤ k ∧ v.1 65 = nI j) ∧ ∀ i, i < k → (U.2.1 0 i = 2 ∧ ∃ j : Nat, j < i ∧ U.2.1 1 i = nI j ∧ v.2.1 69 i = nI j) ∨ (v.2.1 69 i = -1 ∧ (∃ t : Nat, t < m ∧ U.2.1 1 i = nI t ∧ v.2.1 66 i = nI t) ∧ U.2.1 2 i = v.2.1 67 i ∧ ((U.2.1 0 i = 0 ∧ v.2.1 68 i = 0) ∨ (U.2.1 0 i = 1 ∧ v.2.1 68 i = 1)))
def rdR (R v : VV) : Prop := R.1 5 = v.1 25 ∧ R.1 6 = v.1 26
/-- the search for the best way: b is one more than the best sum so far, r its row -/
def bsF (m : Nat) (sz : Nat → Nat) (ok : Nat → Nat → Bool) (wt : Nat → Nat → Nat) : Nat → Nat → (Nat → Nat) → Nat → (Nat → Int32) → Nat × (Nat → Int32) → Nat × (Nat → Int32)
  | 0, _, _, s, pk, st => if st.1 ≤ s then (s + 1, pk) else st
  | k + 1, p, lf, s, pk, st => (List.range m).foldl (fun st t => if ok p t = true ∧ sz p ≤ lf t then bsF m sz ok wt k (p + 1) (fun u => if u = t then lf u - sz p else lf u) (s + wt p t) (upd pk p (nI t)) st else st) (bsF m sz ok wt k (p + 1) lf s (upd pk p (-1)) st)
def szP (P : VV) (p : Nat) : Nat := (P.2.1 (100 + p) 0).toNatClampNeg
def gvR (n m : Nat) (P D : VV) : Prop := D.1 6 = 0 ∨ (D.1 6 = 1 ∧ ∃ (cap : Nat) (ok : Nat → Nat → Bool) (wt : Nat → Nat → Nat), P.2.1 6 0 + P.2.1 6 4 = nI cap ∧ cap ≤ 198 ∧ (∀ p t, p < n → t < m → (ok p t = false ∧ D.2.1 (100 + p) t = -1) ∨ (ok p t = true ∧ D.2.1 (100 + p) t = nI (wt p t))) ∧ D.1 5 = nI (bsF m (szP P) ok wt n 0 (fun _ => cap) 0 (fun _ => -1) (0, fun _ => -1)).1 - 1 ∧ ∀ q, q < n → D.2.1 3 q = (bsF m (szP P) ok wt n 0 (fun _ => cap) 0 (fun _ => -1) (0, fun _ => -1)).2 q)
/-- what a party would choose by prices: the sitting and what it has of it -/
def chF (w d : Nat → Nat) : Nat → Option (Nat × Nat)
  | 0 => none
  | k + 1 => match chF w d k with
    | none => if d k ≤ w k then some (k, w k - d k) else none
    | some q => if d k ≤ w k ∧ q.2 < w k - d k then some (k, w k - d k) else some q
def chT (w d : Nat → Nat) (m t : Nat) : Bool := match chF w d m with
  | none => false
  | some q => q.1 == t
def lvN (w : Nat → Nat → Nat) (sz : Nat → Nat) (d : Nat → Nat) (m t : Nat) : Nat → Nat
  | 0 => 0
  | p + 1 => lvN w sz d m t p + (if chT (w p) d m t = true then sz p else 0)
def isLv (n m : Nat) (w : Nat → Nat → Nat) (sz : Nat → Nat) (seats : Nat) (d : Nat → Nat) : Prop := ∀ t, t < m → lvN w sz d m t n ≤ seats
def wiP (P : VV) (p t : Nat) : Nat := (P.2.1 (100 + p) (1 + t)).toNatClampNeg
def lvR (n m : Nat) (P E : VV) : Prop := E.1 3 = 0 ∨ (E.1 3 = 1 ∧ ∃ seats : Nat, P.2.1 6 0 = nI seats ∧ seats ≤ 99 ∧ ((E.1 2 = 0 ∧ ∀ d : Nat → Nat, (∀ t, t < m → d t ≤ 9) → ¬ isLv n m (wiP P) (szP P) seats d) ∨ (E.1 2 = 1 ∧ ∃ d : Nat → Nat, (∀ t, t < m → d t ≤ 9 ∧ E.2.1 0 t = nI (d t)) ∧ isLv n m (wiP P) (szP P) seats d ∧ ∀ d' : Nat → Nat, (∀ t, t < m → d' t ≤ 9) → isLv n m (wiP P) (szP P) seats d' → ∀ t, t < m → d t ≤ d' t)))
def INV0 (n m : Nat) (X : VV) (T : Nat → Int32) (R P L S Im Wa Wb Z U D E v : VV) : Prop := PR n m P L v ∧ stR n m 0 S v ∧ tpR X T v ∧ imR n m X Im v ∧ waR Wa 0 ∧ waR Wb 1 ∧ rfR v ∧ (∃ h : Nat, h ≤ 20 ∧ Z.1 3 = nI h ∧ v.1 49 = nI h ∧ hsR n m Z v h S) ∧ ntR m U v ∧ rdR R v ∧ gvR n m P D ∧ lvR n m P E
def INV (cv : Nat → VV) (T : Nat → Int32) (B : Nat → Int64) (v : VV) : Prop := ∃ n m, INV0 n m (cv 0) T (cv 2) (cv 6) (cv 7) (cv 8) (cv 9) (cv 12) (cv 13) (cv 15) (cv 16) (cv 17) (cv 18) v
/-- all but what only serves while a call runs, and car 1 -/
def KV (v v' : VV) : Prop := (∀ k, k = 2 ∨ k = 25 ∨ k = 26 ∨ (48 ≤ k ∧ k ≤ 53) ∨ k = 64 ∨ k = 65 → v'.1 k = v.1 k) ∧ (∀ k, k ≤ 15 ∨ k = 54 ∨ (66 ≤ k ∧ k ≤ 69) → v'.2.1 k = v.2.1 k) ∧ (∀ c, c ≠ 1 → carS c c v v')
theorem KV.refl (v : VV) : KV v v := ⟨fun _ _ => rfl, fun _ _ => rfl, fun c _ => cs_refl c v⟩
theorem KV.trans {u v w : VV} (h : KV u v) (h' : KV v w) : KV u w := ⟨fun k hk => (h'.1 k hk).trans (h.1 k hk), fun k hk => (h'.2.1 k hk).trans (h.2.1 k hk), fun c hc => cs_tr (h.2.2 c hc) (h'.2.2 c hc)⟩
theorem KV_si {v : VV} (k : Nat) (x : Int32) (hk : ¬ (k = 2 ∨ k = 25 ∨ k = 26 ∨ (48 ≤ k ∧ k ≤ 53) ∨ k = 64 ∨ k = 65)) : KV v (si v k x) := ⟨fun q hq => by rw [pu_si1, if_neg (by omega)], fun _ _ => rfl, fun c _ => cs_refl c v⟩
theorem KV_0 (v : VV) : KV v (si v 0 0) := KV_si 0 0 (by omega)
theorem KV_sr {v : VV} (k j : Nat) (x : Int32) (hk : 54 < k) (hk' : ¬ (66 ≤ k ∧ k ≤ 69)) : KV v (sr v k j x) := ⟨fun _ _ => rfl, fun q hq => by rw [pu_sr2, if_neg (by omega)], fun c _ => ⟨by rw [pu_sr2, if_neg (by omega)], fun q h1 h2 => by rw [pu_sr2, if_neg (by omega)], fun q h1 h2 p _ => by rw [pu_sr2, if_neg (by omega)], fun q h1 h2 p _ => by rw [pu_sr2, if_neg (by omega)]⟩⟩
theorem KV_wk {v v' : VV} (h : wkG v v') : KV v v' := ⟨fun k hk => h.2 k (by omega), fun k hk => by rw [h.1], fun c _ => by rw [show carS c c v v' ↔ carS c c v v from by unfold carS; rw [h.1]]; exact cs_refl c v⟩
theorem KV_FR {v v' : VV} (h : FR 1 v v') : KV v v' := ⟨fun k hk => h.1 k (by omega) (by omega) (by omega) (by omega), fun k hk => h.2.1 k (by omega), fun c hc => cs_FR h hc⟩
theorem PR_KV {n m : Nat} {P L v L' v' : VV} (h : PR n m P L v) (hL : LF L L') (hv : KV v v') : PR n m P L' v' := PR_tr h (fun k hk => hv.2.1 k (by omega)) (by rw [hL.1]) (fun k hk => hL.2 k (by omega))
theorem rf_KV {v v' : VV} (h : rfR v) (hv : KV v v') : rfR v' := by
  unfold rfR at *
  rw [hv.1 50 (by omega), hv.1 51 (by omega), hv.1 52 (by omega), hv.1 53 (by omega), hv.2.1 54 (by omega)]
  exact h
theorem inv_kv {n m : Nat} {X : VV} {T : Nat → Int32} {R P L S Im Wa Wb Z U D E v L' v' : VV} (h : INV0 n m X T R P L S Im Wa Wb Z U D E v) (hL : LF L L') (hv : KV v v') : INV0 n m X T R P L' S Im Wa Wb Z U D E v' := by
  obtain ⟨hP, hS, hT, hIm, hWa, hWb, hRf, hH, hU, hRd, hG, hE⟩ := h
  have hm := PR_m hP
  refine ⟨PR_KV hP hL hv, st_cs hm hS (hv.2.2 0 (by omega)), ?_, ?_, hWa, hWb, rf_KV hRf hv, ?_, ?_, ?_, hG, hE⟩
  · unfold tpR at *; rw [hv.1 2 (by omega), hv.2.1 1 (by omega)]; exact hT
  · rcases hIm with ⟨a, b⟩ | ⟨a, b, c⟩
    · exact Or.inl ⟨a, (hv.1 48 (by omega)).trans b⟩
    · exact Or.inr ⟨a, (hv.1 48 (by omega)).trans b, st_cs hm c (hv.2.2 2 (by omega))⟩
  · obtain ⟨h, h1, h2, h3, h4⟩ := hH
    exact ⟨h, h1, h2, (hv.1 49 (by omega)).trans h3, hs_tr hm h S (fun i _ => ⟨rfl, rfl, rfl⟩) (fun i _ => hv.2.2 (3 + i) (by omega)) h4⟩
  · unfold ntR at *; rw [hv.1 64 (by omega), hv.1 65 (by omega), hv.2.1 66 (by omega), hv.2.1 67 (by omega), hv.2.1 68 (by omega), hv.2.1 69 (by omega)]; exact hU
  · unfold rdR at *; rw [hv.1 25 (by omega), hv.1 26 (by omega)]; exact hRd
theorem lay_b {P Y : VV} {h : Nat} (h1 : 1 ≤ h) (h9 : h ≤ 9) : f_X0_laying_b20 P Y (nI h) = some ((P.2.1 6 2 + nI h - 1) / nI h) := by
  unfold f_X0_laying_b20
  have : jmax (nI h) 1 = nI h := by unfold jmax; rw [if_neg (show ¬ nI (h) < (1 : Int32) from nI_nlt (a := h) (b := 1) (by omega) (by omega))]
  rw [this, pu_gnz (nI_ne0 (by omega) (by omega))]
theorem way_std {n m : Nat} {P L Y v : VV} {bn : Int32} (hP : PR n m P L v) (hw : waR Y bn) (hr : rfR v) : wayR n P Y v bn := by
  obtain ⟨⟨w0, w1, w2, w3, w4, w5, w6⟩, w7⟩ := hw
  obtain ⟨⟨r0, r1, r2, r3⟩, r4⟩ := hr
  refine ⟨fun p hp => by rw [w4, r3], ⟨w0, fun h => ?_, fun _ => w1, fun h => ?_, fun _ => w2, fun h => ?_, fun _ => w3, fun h => ?_, fun _ => w5⟩, ?_, fun u hu => by rw [w7 u hu, r4 u hu]⟩
  · rw [r0] at h; exact absurd h (by decide)
  · rw [r0] at h; exact absurd h (by decide)
  · rw [r0] at h; exact absurd h (by decide)
  · rw [r0] at h; exact absurd h (by decide)
  · obtain ⟨x, hx1, hx2, hx⟩ := (PR_sF hP).2.2.2.1
    refine ⟨nI x, nI_ne0 (by omega) (by omega), ?_, ?_⟩
    · unfold f_X12_handsOf; rw [r2, if_pos (by decide), r0, if_neg (by decide), hx]
    · unfold f_X0_laying
      rw [w6, if_pos (by decide), (PR_sE hP).2.2.2.1, hx, lay_b hx1 hx2, (PR_sE hP).2.2.1]
/-! The plain calls. -/
theorem pers_S (N : Nat) (hN : 66 < N) {n m : Nat} {P L S v : VV} (h : PR n m P L v) (x : Int32) : f_X8_personsFor N S P x = some (sm_ (fun q => if S.2.1 2 q = x then v.2.1 5 q else 0) n) := by
  have hn := PR_n h
  unfold f_X8_personsFor
  refine itrF n (fun i => (sm_ (fun q => if S.2.1 2 q = x then v.2.1 5 q else 0) i, nI i)) _ ?_ ?_ N 0 (by omega) (by omega)
  · intro i hi
    show f_X8_personsFor_s5 N S P x _ (nI i) = _
    unfold f_X8_personsFor_s5 f_X8_personsFor_b35
    rw [PR_P0 h, if_neg (nI_ge hi (by omega)), pu_gin (show i < 8 by omega) (show 8 < 2 ^ 31 by omega), nI_clamp (show i < 2 ^ 31 by omega), nI_1]
    by_cases e : S.2.1 2 i = x
    · rw [if_pos e, tra0 h hi, pu_bnd]; simp only [sm_, if_pos e]
    · rw [if_neg e]; simp only [sm_, if_neg e, Int32.add_zero]
  · show f_X8_personsFor_s5 N S P x _ (nI n) = _
    unfold f_X8_personsFor_s5
    rw [PR_P0 h, if_pos (nI_le (Nat.le_refl n) (by omega)), pu_inrO]
theorem with_T (N : Nat) (hN : 66 < N) {n m : Nat} {P L v : VV} (h : PR n m P L v) (x : Int32) : f_X12_withTicket N v x = some (sm_ (fun q => if v.2.1 37 q = x then v.2.1 5 q else 0) n) := by
  have hn := PR_n h
  unfold f_X12_withTicket
  refine itrF n (fun i => (sm_ (fun q => if v.2.1 37 q = x then v.2.1 5 q else 0) i, nI i)) _ ?_ ?_ N 0 (by omega) (by omega)
  · intro i hi
    show f_X12_withTicket_s4 N v x _ (nI i) = _
    unfold f_X12_withTicket_s4 f_X12_withTicket_b35
    rw [PR_v0 h, if_neg (nI_ge hi (by omega)), pu_gin (show i < 184 by omega) (show 184 < 2 ^ 31 by omega), nI_clamp (show i < 2 ^ 31 by omega), nI_1]
    by_cases e : v.2.1 37 i = x
    · rw [if_pos e, pu_gin (show i < 16 by omega) (show 16 < 2 ^ 31 by omega)]; simp only [sm_, if_pos e]
    · rw [if_neg e]; simp only [sm_, if_neg e]
  · show f_X12_withTicket_s4 N v x _ (nI n) = _
    unfold f_X12_withTicket_s4
    rw [PR_v0 h, if_pos (nI_le (Nat.le_refl n) (by omega)), pu_inrO]
theorem tk0 {aw : Prop} {S v : VV} (h : carR aw 0 S v) {p : Nat} (hp : p < 8) : S.2.1 2 p = v.2.1 37 p := by
  have := h.2.1 p hp
  rw [show 8 * 0 + p = p by omega] at this
  exact this
theorem with_S (N : Nat) (hN : 66 < N) {n m : Nat} {aw : Prop} {P L S v : VV} (h : PR n m P L v) (hc : carR aw 0 S v) (x : Int32) : f_X12_withTicket N v x = some (sm_ (fun q => if S.2.1 2 q = x then v.2.1 5 q else 0) n) := by
  have hn := PR_n h
  rw [with_T N hN h]
  congr 1
  exact sm_congr n fun i hi => by simp only [tk0 hc (show i < 8 by omega)]
theorem st_fault (N : Nat) : ST_fault N INV := by
  intro cv T B v a1 hI
  obtain ⟨n, m, h⟩ := hI
  have hr : rdR (cv 2) v := h.2.2.2.2.2.2.2.2.2.1
  unfold f_X11_fault f_X12_fault
  by_cases e : a1 = 0
  · simp only [if_pos e]; exact ⟨_, _, rfl, by rw [hr.1], n, m, inv_kv h (LF.refl _) (KV_0 v)⟩
  · simp only [if_neg e]
    by_cases e1 : a1 = 1
    · simp only [if_pos e1]; exact ⟨_, _, rfl, by rw [hr.2], n, m, inv_kv h (LF.refl _) (KV_0 v)⟩
    · simp only [if_neg e1]; exact ⟨_, _, rfl, rfl, n, m, inv_kv h (LF.refl _) (KV_0 v)⟩
theorem st_named (N : Nat) (hN : 66 < N) : ST_named N INV := by
  intro cv T B v a1 hI
  obtain ⟨n, m, h⟩ := hI
  have hP : PR n m (cv 6) (cv 7) v := h.1
  have hn := PR_n hP
  unfold f_X11_named f_X12_named f_X6_numberOf f_X12_found
  obtain ⟨r, r', h1, h2, h3⟩ := itr2 (A := fun q : Int32 => f_X6_numberOf_s2 N (cv 6) a1 q) (B := fun q : Int32 => f_X12_found_s3 N (si v 0 0) 0 (v.2.1 3 0) a1 q) (fun m s s' => ∃ i, m = n - i ∧ i ≤ n ∧ s = nI i ∧ s' = nI i) (fun r r' => r = r') (by
    intro k s s' hR
    obtain ⟨i, hk, hi, rfl, rfl⟩ := hR
    unfold f_X6_numberOf_s2 f_X12_found_s3
    rw [PR_P0 hP, PR_v0 hP, Int32.zero_add]
    rcases Nat.lt_or_ge i n with hlt | hge
    · rw [if_neg (nI_ge hlt (by omega)), if_neg (nI_ge hlt (by omega)), pu_gin (show i < 8 by omega) (show 8 < 2 ^ 31 by omega), pu_gin (show i < 16 by omega) (show 16 < 2 ^ 31 by omega), nI_clamp (show i < 2 ^ 31 by omega), (PR_tR hP hlt).1]
      show (∃ m' t t', m' < k ∧ (if v.2.1 4 i = a1 then _ else _) = _ ∧ (if v.2.1 4 i = a1 then _ else _) = _ ∧ _) ∨ (∃ r r', (if v.2.1 4 i = a1 then _ else _) = _ ∧ (if v.2.1 4 i = a1 then _ else _) = _ ∧ _)
      by_cases e : v.2.1 4 i = a1
      · right; simp only [if_pos e, pu_inrO]; exact ⟨_, _, rfl, rfl, rfl⟩
      · left; simp only [if_neg e]; exact ⟨n - (i + 1), _, _, by omega, rfl, rfl, i + 1, rfl, hlt, nI_1 i, nI_1 i⟩
    · right
      have : i = n := by omega
      subst this
      simp only [if_pos (nI_le (Nat.le_refl i) (show i < 2 ^ 31 by omega)), pu_inrO]
      exact ⟨_, _, rfl, rfl, rfl⟩) N n 0 0 (by omega) ⟨0, rfl, by omega, rfl, rfl⟩
  subst h3
  rw [h1, h2, pu_bnd, pu_bnd]
  exact ⟨_, _, rfl, rfl, n, m, inv_kv h (LF.refl _) (KV_0 v)⟩
theorem st_wish (N : Nat) : ST_wish N INV := by
  intro cv T B v a1 a2 hI
  obtain ⟨n, m, h⟩ := hI
  have hP : PR n m (cv 6) (cv 7) (si v 0 0) := PR_KV h.1 (LF.refl _) (KV_0 v)
  have hn := PR_n hP
  unfold f_X11_wish f_X12_wish
  have fin : INV cv T B (si v 0 0) := ⟨n, m, inv_kv h (LF.refl _) (KV_0 v)⟩
  rcases hasP hP a1 with ⟨p, hp, rfl, e1, e2⟩ | ⟨e1, e2⟩
  · simp only [e1, e2, pu_bnd, n10, ↓reduceIte]
    rcases pk_ix a2 (n := 3) (by omega) with h1 | h1 | ⟨t, ht, rfl⟩
    · simp only [if_pos h1]; exact ⟨_, _, rfl, rfl, fin⟩
    · have h1' : (3 : Int32) ≤ a2 := h1
      simp only [if_neg (show ¬ a2 < 3 from Int32.not_lt.mpr h1'), if_pos h1', ite_self]; exact ⟨_, _, rfl, rfl, fin⟩
    · simp only [if_neg (nI_pos (show t < 2 ^ 31 by omega)), if_pos (show nI (t) < (3 : Int32) from nI_lt (a := t) (b := 3) (by omega) (by omega)), if_neg (show ¬ (3 : Int32) ≤ nI (t) from nI_ge (a := t) (b := 3) (by omega) (by omega)), traW hP hp ht, pu_bnd, pu_3, pu_gin (show 3 * p + t < 48 by omega) (show 48 < 2 ^ 31 by omega), nI_clamp (show 3 * p + t < 2 ^ 31 by omega)]
      exact ⟨_, _, rfl, rfl, fin⟩
  · simp only [e1, e2, pu_bnd, ↓reduceIte]; exact ⟨_, _, rfl, rfl, fin⟩
theorem ca8 {aw : Prop} {S v : VV} (h : carR aw 0 S v) (haw : aw) {p : Nat} (hp : p < 8) : S.2.1 2 p = v.2.1 37 p ∧ S.2.1 5 p = v.2.1 38 p ∧ S.2.1 6 p = v.2.1 39 p ∧ S.2.1 7 p = v.2.1 40 p ∧ S.2.1 8 p = v.2.1 41 p := by
  obtain ⟨_, a2, a3, a4, a5, a6, a7, a8⟩ := h
  have b2 := a2 p hp
  have b3 := a3 p hp
  have b4 := a4 p hp
  have b5 := a5 haw p hp
  have b6 := a6 p hp
  rw [show 8 * 0 + p = p by omega] at b2 b3 b4 b5 b6
  exact ⟨b2, b3, b4, b5, b6⟩
theorem ca3 {aw : Prop} {S v : VV} (h : carR aw 0 S v) {p : Nat} (hp : p < 3) : S.2.1 3 p = v.2.1 42 p ∧ S.2.1 4 p = v.2.1 43 p := by
  obtain ⟨_, a2, a3, a4, a5, a6, a7, a8⟩ := h
  have b2 := a7 p hp
  have b3 := a8 p hp
  rw [show 3 * 0 + p = p by omega] at b2 b3
  exact ⟨b2, b3⟩
theorem st_party (N : Nat) : ST_party N INV := by
  intro cv T B v o a1 a2 hI
  obtain ⟨n, m, h⟩ := hI
  have hP : PR n m (cv 6) (cv 7) v := h.1
  have hn := PR_n hP
  have hc : carR True 0 (cv 8) v := h.2.1.1
  have fin : ∀ z, INV cv T B (si v 0 z) := fun z => ⟨n, m, inv_kv h (LF.refl _) (KV_si 0 z (by omega))⟩
  have hn0 : ∀ z : Int32, (si v 0 z).1 0 = z := fun z => rfl
  unfold f_L_party f_X11_party f_X12_party f_X12_party_b23 f_X12_party_b28
  rcases hasP hP a1 with ⟨p, hp, rfl, e1, e2⟩ | ⟨e1, e2⟩
  · obtain ⟨b2, b3, b4, b5, b6⟩ := ca8 hc trivial (show p < 8 by omega)
    simp only [e1, e2, pu_bnd, if_neg (show ¬ (1 : Int32) = 0 from by decide), if_neg (show ¬ (2 : Int32) = 0 from by decide), if_pos (show (0 : Int32) = 0 from rfl), pu_gin (show p < 8 by omega) (show 8 < 2 ^ 31 by omega), pu_gin (show p < 16 by omega) (show 16 < 2 ^ 31 by omega), pu_gin (show p < 184 by omega) (show 184 < 2 ^ 31 by omega), nI_clamp (show p < 2 ^ 31 by omega), tra0 hP hp, tra4 hP hp, tra5 hP hp, tra6 hP hp]
    have fr : ∀ x : Int32, ∃ (k b : Int32) (o1 : Nat → Int64) (v1 : VV), bnd (some ((0 : Int32), x)) (fun q => if q.1 = 0 then some ((0 : Int32), vp_updL o 0 q.2.toInt64) else some (q.1, o)) = some (k, o1) ∧ some (x, si v 0 0) = some (b, v1) ∧ v1.1 0 = k ∧ (k = 0 → o1 0 = b.toInt64) ∧ INV cv T B v1 := fun x => ⟨0, x, vp_updL o 0 x.toInt64, si v 0 0, rfl, rfl, rfl, fun _ => pk_uLs, fin 0⟩
    have bad : ∃ (k b : Int32) (o1 : Nat → Int64) (v1 : VV), bnd (some ((2 : Int32), (0 : Int32))) (fun q => if q.1 = 0 then some ((0 : Int32), vp_updL o 0 q.2.toInt64) else some (q.1, o)) = some (k, o1) ∧ some ((0 : Int32), si v 0 2) = some (b, v1) ∧ v1.1 0 = k ∧ (k = 0 → o1 0 = b.toInt64) ∧ INV cv T B v1 := ⟨2, 0, o, si v 0 2, rfl, rfl, rfl, fun h => absurd h (by decide), fin 2⟩
    rcases pk_ix a2 (n := 9) (by omega) with h1 | h1 | ⟨t, ht, rfl⟩
    · have hne : ∀ c : Int32, ¬ c < 0 → ¬ a2 = c := fun c hc e => hc (e ▸ h1)
      rw [if_pos h1, if_neg (hne 0 (by decide)), if_neg (hne 1 (by decide)), if_neg (hne 2 (by decide)), if_neg (hne 3 (by decide)), if_neg (hne 4 (by decide)), if_neg (hne 5 (by decide)), if_neg (hne 6 (by decide)), if_neg (hne 7 (by decide)), if_neg (hne 8 (by decide))]
      exact bad
    · have h1' : (9 : Int32) ≤ a2 := h1
      have hne : ∀ c : Int32, c < 9 → ¬ a2 = c := fun c hc e => absurd (i_lt_le hc h1') (by rw [e]; exact Int32.lt_irrefl)
      have hle : ¬ a2 ≤ 8 := fun e => absurd (i_le_lt (Int32.le_trans h1' e) (show (8 : Int32) < 9 from by decide)) Int32.lt_irrefl
      rw [if_neg hle, ite_self, if_neg (hne 0 (by decide)), if_neg (hne 1 (by decide)), if_neg (hne 2 (by decide)), if_neg (hne 3 (by decide)), if_neg (hne 4 (by decide)), if_neg (hne 5 (by decide)), if_neg (hne 6 (by decide)), if_neg (hne 7 (by decide)), if_neg (hne 8 (by decide))]
      exact bad
    · rw [if_neg (nI_pos (show t < 2 ^ 31 by omega)), if_pos (show nI (t) ≤ (8 : Int32) from nI_le (a := t) (b := 8) (by omega) (by omega))]
      have : t = 0 ∨ t = 1 ∨ t = 2 ∨ t = 3 ∨ t = 4 ∨ t = 5 ∨ t = 6 ∨ t = 7 ∨ t = 8 := by omega
      rcases this with rfl | rfl | rfl | rfl | rfl | rfl | rfl | rfl | rfl
      · exact fr _
      · exact fr _
      · exact fr _
      · exact fr _
      · have := fr ((cv 8).2.1 2 p); rw [show some ((cv 8).2.1 2 p, si v 0 0) = some (v.2.1 37 p, si v 0 0) by rw [b2]] at this; exact this
      · have := fr ((cv 8).2.1 5 p); rw [show some ((cv 8).2.1 5 p, si v 0 0) = some (v.2.1 38 p, si v 0 0) by rw [b3]] at this; exact this
      · have := fr ((cv 8).2.1 6 p); rw [show some ((cv 8).2.1 6 p, si v 0 0) = some (v.2.1 39 p, si v 0 0) by rw [b4]] at this; exact this
      · have := fr ((cv 8).2.1 7 p); rw [show some ((cv 8).2.1 7 p, si v 0 0) = some (v.2.1 40 p, si v 0 0) by rw [b5]] at this; exact this
      · have := fr ((cv 8).2.1 8 p); rw [show some ((cv 8).2.1 8 p, si v 0 0) = some (v.2.1 41 p, si v 0 0) by rw [b6]] at this; exact this
  · simp only [e1, e2, pu_bnd, n10, ↓reduceIte]
    exact ⟨1, 0, o, si v 0 1, rfl, rfl, rfl, fun h => absurd h (by decide), fin 1⟩
theorem st_sitting (N : Nat) (hN : 66 < N) : ST_sitting N INV := by
  intro cv T B v a1 a2 hI
  obtain ⟨n, m, h⟩ := hI
  have hP : PR n m (cv 6) (cv 7) (si v 0 0) := PR_KV h.1 (LF.refl _) (KV_0 v)
  have hm := PR_m hP
  have hc : carR True 0 (cv 8) (si v 0 0) := h.2.1.1
  have hs : seenR m 0 (cv 8) v := h.2.1.2.1
  have fin : INV cv T B (si v 0 0) := ⟨n, m, inv_kv h (LF.refl _) (KV_0 v)⟩
  unfold f_X11_sitting f_X12_sitting f_X11_ofLatestDay
  rcases hasS hP a1 with ⟨t, ht, rfl, e1, e2⟩ | ⟨e1, e2⟩
  · simp only [e1, e2, pu_bnd, if_neg (show ¬ (1 : Int32) = 0 from by decide), pu_gin (show t < 3 by omega) (show 3 < 2 ^ 31 by omega), pu_gin (show t < 6 by omega) (show 6 < 2 ^ 31 by omega), pu_gin (show t < 69 by omega) (show 69 < 2 ^ 31 by omega), nI_clamp (show t < 2 ^ 31 by omega), pers_S N hN hP, with_S N hN hP hc]
    have h34 := ca3 hc (show t < 3 by omega)
    have h10 : (cv 6).2.1 4 t = v.2.1 10 t := (PR_sR hP ht).1
    by_cases c0 : a2 = 0
    · simp only [if_pos c0]; exact ⟨_, _, rfl, by rw [h10], fin⟩
    simp only [if_neg c0]
    by_cases c1 : a2 = 1
    · simp only [if_pos c1]; exact ⟨_, _, rfl, by rw [h34.2]; rfl, fin⟩
    simp only [if_neg c1]
    by_cases c2 : a2 = 2
    · simp only [if_pos c2]; exact ⟨_, _, rfl, by rw [h34.1]; rfl, fin⟩
    simp only [if_neg c2]
    by_cases c3 : a2 = 3
    · simp only [if_pos c3]; exact ⟨_, _, rfl, rfl, fin⟩
    simp only [if_neg c3]
    rcases hs with ⟨s0, s1⟩ | ⟨s0, s1⟩
    · obtain ⟨g1, g2, g3, g4⟩ := s1 t (by omega)
      rw [show 3 * 0 + t = t by omega] at g1 g2 g3 g4
      simp only [if_pos s0, g1, g2, g3, g4, ↓reduceIte, ite_self]
      exact ⟨_, _, rfl, rfl, fin⟩
    · obtain ⟨g0, g1, g2, g3, g4, g5⟩ := s1 t ht
      rw [show 3 * 0 + t = t by omega] at g0 g1 g2 g3 g4 g5
      have hne : ¬ v.2.1 44 t = -1 := fun e => g0 (by rw [e]; decide)
      simp only [if_neg (show ¬ (cv 8).1 12 = 0 from by rw [s0]; decide), g1, g2, g3, g4, g5, if_neg hne]
      by_cases c4 : a2 = 4
      · simp only [if_pos c4, pu_bnd]; exact ⟨_, _, rfl, rfl, fin⟩
      simp only [if_neg c4]
      by_cases c5 : a2 = 5
      · simp only [if_pos c5, pu_bnd]; exact ⟨_, _, rfl, rfl, fin⟩
      simp only [if_neg c5]
      by_cases c6 : a2 = 6
      · simp only [if_pos c6, pu_bnd]; exact ⟨_, _, rfl, rfl, fin⟩
      simp only [if_neg c6]
      by_cases c7 : a2 = 7
      · simp only [if_pos c7, pu_bnd]; exact ⟨_, _, rfl, rfl, fin⟩
      simp only [if_neg c7]
      by_cases c8 : a2 = 8
      · simp only [if_pos c8, pu_bnd]; exact ⟨_, _, rfl, rfl, fin⟩
      simp only [if_neg c8, pu_bnd]
      exact ⟨_, _, rfl, rfl, fin⟩
  · simp only [e1, e2, pu_bnd, ↓reduceIte]; exact ⟨_, _, rfl, rfl, fin⟩
theorem st_without (N : Nat) (hN : 66 < N) : ST_without N INV := by
  intro cv T B v hI
  obtain ⟨n, m, h⟩ := hI
  have hP : PR n m (cv 6) (cv 7) (si v 0 0) := PR_KV h.1 (LF.refl _) (KV_0 v)
  have hc : carR True 0 (cv 8) (si v 0 0) := h.2.1.1
  unfold f_X11_without f_X12_without
  rw [pers_S N hN hP, with_S N hN hP hc, pu_bnd, pu_bnd]
  exact ⟨_, _, rfl, rfl, n, m, inv_kv h (LF.refl _) (KV_0 v)⟩
theorem st_mostCross (N : Nat) (hN : 66 < N) : ST_mostCross N INV := by
  intro cv T B v a1 hI
  obtain ⟨n, m, h⟩ := hI
  have hP : PR n m (cv 6) (cv 7) (si v 0 0) := PR_KV h.1 (LF.refl _) (KV_0 v)
  have hn := PR_n hP
  have hc : carR True 0 (cv 8) (si v 0 0) := h.2.1.1
  have fin : INV cv T B (si v 0 0) := ⟨n, m, inv_kv h (LF.refl _) (KV_0 v)⟩
  unfold f_X11_mostCross f_X12_mostCross
  by_cases c1 : a1 < 0
  · rw [if_pos c1, if_pos c1]; exact ⟨_, _, rfl, rfl, fin⟩
  rw [if_neg c1, if_neg c1]
  by_cases c2 : (1 : Int32) < a1
  · rw [if_pos c2, if_pos c2]; exact ⟨_, _, rfl, rfl, fin⟩
  rw [if_neg c2, if_neg c2, PR_P0 hP, show v.2.1 3 0 = nI n from PR_v0 hP]
  by_cases c3 : nI n = 0
  · rw [if_pos c3, if_pos c3]; exact ⟨_, _, rfl, rfl, fin⟩
  rw [if_neg c3, if_neg c3]
  have hn1 : 1 ≤ n := by
    rcases Nat.eq_zero_or_pos n with h0 | h0
    · subst h0; exact absurd rfl c3
    · exact h0
  have hcr : ∀ p, p < n → (cv 8).2.1 6 p = (si v 0 0).2.1 39 p := fun p hp => (ca8 hc trivial (show p < 8 by omega)).2.2.1
  obtain ⟨r, r', h1, h2, h3⟩ := itr2 (A := fun q : Int32 × Int32 => f_X11_mostCross_s25 N (cv 0) (cv 6) (cv 8) a1 q.1 q.2) (B := fun q : Int32 × Int32 × VV => f_X12_mostCross_s29 N q.2.2 a1 q.1 q.2.1) (fun k s s' => ∃ i b, k = n - i ∧ 1 ≤ i ∧ i ≤ n ∧ b < n ∧ s = (nI b, nI i) ∧ s' = (nI b, nI i, si v 0 0)) (fun r r' => r' = (r, si v 0 0)) (by
    intro k s s' hR
    obtain ⟨i, b, hk, hi1, hi, hb, rfl, rfl⟩ := hR
    simp only
    unfold f_X11_mostCross_s25 f_X12_mostCross_s29 f_X11_mostCross_b59 f_X12_mostCross_b56
    rw [PR_P0 hP, PR_v0 hP]
    rcases Nat.lt_or_ge i n with hlt | hge
    · left
      simp only [if_neg (nI_ge hlt (show n < 2 ^ 31 by omega)), pu_gin (show i < 8 by omega) (show 8 < 2 ^ 31 by omega), pu_gin (show b < 8 by omega) (show 8 < 2 ^ 31 by omega), pu_gin (show i < 184 by omega) (show 184 < 2 ^ 31 by omega), pu_gin (show b < 184 by omega) (show 184 < 2 ^ 31 by omega), nI_clamp (show i < 2 ^ 31 by omega), nI_clamp (show b < 2 ^ 31 by omega), hcr i hlt, hcr b hb]
      by_cases e : (si v 0 0).2.1 39 i ≤ (si v 0 0).2.1 39 b
      · simp only [if_pos e]; exact ⟨n - (i + 1), _, _, by omega, rfl, rfl, i + 1, b, rfl, by omega, hlt, hb, by rw [nI_1], by rw [nI_1]⟩
      · simp only [if_neg e]; exact ⟨n - (i + 1), _, _, by omega, rfl, rfl, i + 1, i, rfl, by omega, hlt, hlt, by rw [nI_1], by rw [nI_1]⟩
    · right
      have : i = n := by omega
      subst this
      simp only [if_pos (nI_le (Nat.le_refl i) (show i < 2 ^ 31 by omega)), pu_gin (show b < 8 by omega) (show 8 < 2 ^ 31 by omega), pu_gin (show b < 184 by omega) (show 184 < 2 ^ 31 by omega), nI_clamp (show b < 2 ^ 31 by omega), hcr b hb]
      by_cases e : a1 = 0
      · simp only [if_pos e, pu_inrO]; exact ⟨_, _, rfl, rfl, rfl⟩
      · simp only [if_neg e, pu_inrO]; exact ⟨_, _, rfl, rfl, rfl⟩) N (n - 1) (0, 1) (0, 1, si v 0 0) (by omega) ⟨1, 0, rfl, by omega, by omega, by omega, rfl, rfl⟩
  subst h3
  exact ⟨r, si v 0 0, h1, h2, fin⟩
theorem sm_ext {f : Nat → Int32} {n : Nat} : ∀ k, n ≤ k → (∀ i, n ≤ i → i < k → f i = 0) → sm_ f k = sm_ f n := by
  intro k
  induction k with
  | zero => intro h _; have : n = 0 := by omega
            subst this; rfl
  | succ k ih =>
    intro h hz
    by_cases e : n = k + 1
    · subst e; rfl
    · show sm_ f k + f k = _
      rw [ih (by omega) (fun i h1 h2 => hz i h1 (by omega)), hz k (by omega) (by omega), Int32.add_zero]
theorem sm_sub {f g h : Nat → Int32} : ∀ n, (∀ i, i < n → f i = g i + h i) → sm_ f n - sm_ g n = sm_ h n := by
  intro n
  induction n with
  | zero => intro _; show (0 : Int32) - 0 = 0; decide
  | succ n ih =>
    intro hh
    show sm_ f n + f n - (sm_ g n + g n) = sm_ h n + h n
    rw [← ih (fun i hi => hh i (by omega)), hh n (by omega)]
    grind
theorem pers_A (N : Nat) (hN : 66 < N) {n m : Nat} {P L v : VV} (h : PR n m P L v) : f_X6_persons N P = some (sm_ (fun q => v.2.1 5 q) n) := by
  have hn := PR_n h
  unfold f_X6_persons
  refine itrF n (fun i => (sm_ (fun q => v.2.1 5 q) i, nI i)) _ ?_ ?_ N 0 (by omega) (by omega)
  · intro i hi
    show f_X6_persons_s4 N P _ (nI i) = _
    unfold f_X6_persons_s4
    rw [PR_P0 h, if_neg (nI_ge hi (by omega)), pu_gin (show i < 8 by omega) (show 8 < 2 ^ 31 by omega), nI_clamp (show i < 2 ^ 31 by omega), nI_1, (PR_tR h hi).2.1]; rfl
  · show f_X6_persons_s4 N P _ (nI n) = _
    unfold f_X6_persons_s4
    rw [PR_P0 h, if_pos (nI_le (Nat.le_refl n) (by omega)), pu_inrO]
theorem st_count (N : Nat) (hN : 66 < N) : ST_count N INV := by
  intro cv T B v a1 hI
  obtain ⟨n, m, h⟩ := hI
  have h00 := h
  obtain ⟨hP0, hS, hT, hIm, hWa, hWb, hRf, hH, hU, hRd, hG, hE⟩ := h00
  have hP : PR n m (cv 6) (cv 7) (si v 0 0) := PR_KV h.1 (LF.refl _) (KV_0 v)
  have hn := PR_n hP
  have hc : carR True 0 (cv 8) (si v 0 0) := h.2.1.1
  have fin : INV cv T B (si v 0 0) := ⟨n, m, inv_kv h (LF.refl _) (KV_0 v)⟩
  obtain ⟨⟨d1, d2, d3, d4, d5⟩, _⟩ := h.2.1.1
  unfold f_X11_count f_X12_count
  by_cases c0 : a1 = 0
  · rw [if_pos c0, if_pos c0]; exact ⟨_, _, rfl, by rw [PR_P0 hP0, PR_v0 hP0], fin⟩
  rw [if_neg c0, if_neg c0]
  by_cases c1 : a1 = 1
  · rw [if_pos c1, if_pos c1]; exact ⟨_, _, rfl, by rw [PR_P3 hP0, PR_v2 hP0], fin⟩
  rw [if_neg c1, if_neg c1]
  by_cases c2 : a1 = 2
  · rw [if_pos c2, if_pos c2]; exact ⟨_, _, rfl, by rw [(PR_sE hP0).1], fin⟩
  rw [if_neg c2, if_neg c2]
  by_cases c3 : a1 = 3
  · rw [if_pos c3, if_pos c3, pers_A N hN hP, pu_bnd]
    refine ⟨_, _, rfl, ?_, fin⟩
    refine itrF n (fun i => (sm_ (fun q => v.2.1 5 q) i, nI i, si v 0 0)) _ ?_ ?_ N 0 (by omega) (by omega)
    · intro i hi
      show f_X12_count_s107 N (si v 0 0) _ (nI i) = _
      unfold f_X12_count_s107
      rw [PR_v0 hP, if_neg (nI_ge hi (by omega)), pu_gin (show i < 16 by omega) (show 16 < 2 ^ 31 by omega), nI_clamp (show i < 2 ^ 31 by omega), nI_1]; rfl
    · show f_X12_count_s107 N (si v 0 0) _ (nI n) = _
      unfold f_X12_count_s107
      rw [PR_v0 hP, if_pos (nI_le (Nat.le_refl n) (by omega)), pu_inrO]; rfl
  rw [if_neg c3, if_neg c3]
  by_cases c4 : a1 = 4
  · rw [if_pos c4, if_pos c4]; exact ⟨_, _, rfl, by rw [(PR_sE hP0).2.2.2.2.1], fin⟩
  rw [if_neg c4, if_neg c4]
  by_cases c5 : a1 = 5
  · rw [if_pos c5, if_pos c5]; exact ⟨_, _, rfl, by rw [PR_kn hP0], fin⟩
  rw [if_neg c5, if_neg c5]
  by_cases c6 : a1 = 6
  · rw [if_pos c6, if_pos c6]; exact ⟨_, _, rfl, by rw [d1], fin⟩
  rw [if_neg c6, if_neg c6]
  by_cases c7 : a1 = 7
  · rw [if_pos c7, if_pos c7]; exact ⟨_, _, rfl, by rw [d3], fin⟩
  rw [if_neg c7, if_neg c7]
  by_cases c8 : a1 = 8
  · rw [if_pos c8, if_pos c8]
    have hcr : ∀ p, p < n → (cv 8).2.1 6 p = v.2.1 39 p := fun p hp => (ca8 hc trivial (show p < 8 by omega)).2.2.1
    have hx : f_X8_crossInAll N (cv 8) = some (sm_ (fun q => (cv 8).2.1 6 q) n) := by
      rw [← sm_ext 8 hn (fun i h1 h2 => h.2.1.2.2.2.2.1 i h1 h2)]
      unfold f_X8_crossInAll
      refine itrF 8 (fun i => (sm_ (fun q => (cv 8).2.1 6 q) i, nI i)) _ ?_ ?_ N 0 (by omega) (by omega)
      · intro i hi
        show f_X8_crossInAll_s4 N (cv 8) _ (nI i) = _
        unfold f_X8_crossInAll_s4
        rw [if_neg (show ¬ (8 : Int32) ≤ nI (i) from nI_ge (a := i) (b := 8) (by omega) (by omega)), pu_gin (show i < 8 by omega) (show 8 < 2 ^ 31 by omega), nI_clamp (show i < 2 ^ 31 by omega), nI_1]; rfl
      · rfl
    rw [hx, pu_bnd]
    refine ⟨_, _, rfl, ?_, fin⟩
    rw [sm_congr n (f := fun q => (cv 8).2.1 6 q) (g := fun q => v.2.1 39 q) hcr]
    refine itrF n (fun i => (sm_ (fun q => v.2.1 39 q) i, nI i, si v 0 0)) _ ?_ ?_ N 0 (by omega) (by omega)
    · intro i hi
      show f_X12_count_s166 N (si v 0 0) _ (nI i) = _
      unfold f_X12_count_s166
      rw [PR_v0 hP, if_neg (nI_ge hi (by omega)), pu_gin (show i < 184 by omega) (show 184 < 2 ^ 31 by omega), nI_clamp (show i < 2 ^ 31 by omega), nI_1]; rfl
    · show f_X12_count_s166 N (si v 0 0) _ (nI n) = _
      unfold f_X12_count_s166
      rw [PR_v0 hP, if_pos (nI_le (Nat.le_refl n) (by omega)), pu_inrO]
  rw [if_neg c8, if_neg c8]
  by_cases c9 : a1 = 9
  · rw [if_pos c9, if_pos c9]; exact ⟨_, _, rfl, by rw [d4], fin⟩
  rw [if_neg c9, if_neg c9]
  by_cases c10 : a1 = 10
  · rw [if_pos c10, if_pos c10]; exact ⟨_, _, rfl, by rw [d5], fin⟩
  rw [if_neg c10, if_neg c10]
  by_cases c11 : a1 = 11
  · rw [if_pos c11, if_pos c11, pers_A N hN hP, pers_S N hN hP, pu_bnd, pu_bnd]
    refine ⟨_, _, rfl, ?_, fin⟩
    rw [sm_sub (h := fun q => if v.2.1 37 q = -1 then 0 else v.2.1 5 q) n (fun i hi => by
      simp only [tk0 hc (show i < 8 by omega)]
      show v.2.1 5 i = (if v.2.1 37 i = -1 then v.2.1 5 i else 0) + (if v.2.1 37 i = -1 then 0 else v.2.1 5 i)
      by_cases e : v.2.1 37 i = -1
      · rw [if_pos e, if_pos e, Int32.add_zero]
      · rw [if_neg e, if_neg e, Int32.zero_add])]
    refine itrF n (fun i => (sm_ (fun q => if v.2.1 37 q = -1 then 0 else v.2.1 5 q) i, nI i, si v 0 0)) _ ?_ ?_ N 0 (by omega) (by omega)
    · intro i hi
      show f_X12_count_s209 N (si v 0 0) _ (nI i) = _
      unfold f_X12_count_s209 f_X12_count_b240
      rw [PR_v0 hP, if_neg (nI_ge hi (by omega)), pu_gin (show i < 184 by omega) (show 184 < 2 ^ 31 by omega), nI_clamp (show i < 2 ^ 31 by omega), pu_gin (show i < 16 by omega) (show 16 < 2 ^ 31 by omega), nI_1]
      show (if v.2.1 37 i = -1 then _ else _) = _
      by_cases e : v.2.1 37 i = -1
      · rw [if_pos e]; simp only [sm_, if_pos e]
      · rw [if_neg e]; simp only [sm_, if_neg e]; rfl
    · show f_X12_count_s209 N (si v 0 0) _ (nI n) = _
      unfold f_X12_count_s209
      rw [PR_v0 hP, if_pos (nI_le (Nat.le_refl n) (by omega)), pu_inrO]
  rw [if_neg c11, if_neg c11]
  obtain ⟨k, hk, u1, u2, u3, u4, u5⟩ := hU
  by_cases c12 : a1 = 12
  · rw [if_pos c12, if_pos c12]; exact ⟨_, _, rfl, by rw [u1, u2], fin⟩
  rw [if_neg c12, if_neg c12]
  by_cases c13 : a1 = 13
  · rw [if_pos c13, if_pos c13]
    unfold f_X5_knownCount f_X12_knownMany
    rw [u3, show (si v 0 0).1 65 = v.1 65 from rfl, show (si v 0 0).1 64 = v.1 64 from rfl, u1, u2]
    rcases u4 with e | ⟨j, hj, e⟩
    · rw [if_pos e, if_pos e]; exact ⟨_, _, rfl, rfl, fin⟩
    · have hne : ¬ v.1 65 = -1 := by
        rw [e]; intro e'
        have : (-1 : Int32) < 0 := by decide
        rw [← e'] at this
        exact nI_pos (by omega) this
      rw [if_neg hne, if_neg hne, e]
      have : jmin (nI j) (nI k) = nI j := by unfold jmin; rw [if_neg (nI_nlt hj (by omega))]
      rw [this]
      exact ⟨_, _, rfl, rfl, fin⟩
  rw [if_neg c13, if_neg c13]
  obtain ⟨hh, g1, g2, g3, g4⟩ := hH
  by_cases c14 : a1 = 14
  · rw [if_pos c14, if_pos c14]; exact ⟨_, _, rfl, by rw [g2, g3], fin⟩
  rw [if_neg c14, if_neg c14]
  exact ⟨_, _, rfl, rfl, fin⟩
theorem nI_m1 {n : Nat} (h : n < 2 ^ 31) : ¬ nI n = -1 := fun e => nI_pos h (by rw [e]; decide)
/-- what two parties at a table do: both sides alike -/
theorem restE {n m p q : Nat} {P L v : VV} (h : PR n m P L v) (hp : p < n) (hq : q < n) (i : Nat) (hi : i < 4) : ∃ z : Int32, f_X11_isRest (v.2.1 8 p) (v.2.1 8 q) (nI i >>> ((1 : Int32) &&& 31)) (nI i &&& 1) = some z ∧ f_X12_isRest v (nI i / 2) (nI i - nI i / 2 * 2) (nI p) (nI q) = some z := by
  have hn := PR_n h
  have e1 : nI i >>> ((1 : Int32) &&& 31) = nI i / 2 := by
    have : i = 0 ∨ i = 1 ∨ i = 2 ∨ i = 3 := by omega
    rcases this with rfl | rfl | rfl | rfl <;> decide
  have e2 : nI i &&& 1 = nI i - nI i / 2 * 2 := by
    have : i = 0 ∨ i = 1 ∨ i = 2 ∨ i = 3 := by omega
    rcases this with rfl | rfl | rfl | rfl <;> decide
  rw [e1, e2]
  generalize nI i / 2 = a
  generalize nI i - a * 2 = b
  unfold f_X11_isRest f_X12_isRest
  rw [pu_gin (show p < 16 by omega) (show 16 < 2 ^ 31 by omega), pu_gin (show q < 16 by omega) (show 16 < 2 ^ 31 by omega), nI_clamp (show p < 2 ^ 31 by omega), nI_clamp (show q < 2 ^ 31 by omega)]
  have hg : ∀ x y c d, ∃ g, f_X11_gain x y c d = some g ∧ f_X12_has v c d x y = some g := by
    intro x y c d
    unfold f_X11_gain f_X12_has
    by_cases k1 : c = 0
    · simp only [if_pos k1]; exact ⟨_, rfl, rfl⟩
    · simp only [if_neg k1]
      by_cases k2 : d = 0
      · simp only [if_pos k2]; exact ⟨_, rfl, rfl⟩
      · simp only [if_neg k2]; exact ⟨_, rfl, rfl⟩
  obtain ⟨g1, a1, b1⟩ := hg (v.2.1 8 p) (v.2.1 8 q) a b
  obtain ⟨g2, a2, b2⟩ := hg (v.2.1 8 p) (v.2.1 8 q) (1 - a) b
  obtain ⟨g3, a3, b3⟩ := hg (v.2.1 8 q) (v.2.1 8 p) b a
  obtain ⟨g4, a4, b4⟩ := hg (v.2.1 8 q) (v.2.1 8 p) (1 - b) a
  simp only [a1, a2, a3, a4, b1, b2, b3, b4, pu_bnd]
  by_cases k1 : g1 < g2
  · simp only [if_pos k1]; exact ⟨_, rfl, rfl⟩
  · simp only [if_neg k1]
    by_cases k2 : g3 < g4
    · simp only [if_pos k2]; exact ⟨_, rfl, rfl⟩
    · simp only [if_neg k2]; exact ⟨_, rfl, rfl⟩
theorem twoR {n m : Nat} {P L v X : VV} (h : PR n m P L v) (x y : Int32) : (∃ p q, p < n ∧ q < n ∧ x = nI p ∧ y = nI q ∧ f_X11_areTwo X P x y = some 1 ∧ f_X12_areTwo v x y = some 1) ∨ (f_X11_areTwo X P x y = some 0 ∧ f_X12_areTwo v x y = some 0) := by
  unfold f_X11_areTwo f_X12_areTwo
  rcases hasP h x with ⟨p, hp, rfl, e1, e2⟩ | ⟨e1, e2⟩
  · rcases hasP h y with ⟨q, hq, rfl, e3, e4⟩ | ⟨e3, e4⟩
    · by_cases e : nI p = nI q
      · right; simp only [e1, e2, e3, e4, pu_bnd, n10, ↓reduceIte, if_pos e]; exact ⟨trivial, trivial⟩
      · left; exact ⟨p, q, hp, hq, rfl, rfl, by simp only [e1, e2, e3, e4, pu_bnd, n10, ↓reduceIte, if_neg e], by simp only [e1, e2, e3, e4, pu_bnd, n10, ↓reduceIte, if_neg e]⟩
    · right; simp only [e1, e2, e3, e4, pu_bnd, n10, ↓reduceIte]; exact ⟨trivial, trivial⟩
  · right; simp only [e1, e2, pu_bnd, ↓reduceIte]; exact ⟨trivial, trivial⟩
theorem st_rests (N : Nat) (hN : 66 < N) : ST_rests N INV := by
  intro cv T B v a1 a2 hI
  obtain ⟨n, m, h⟩ := hI
  have hP : PR n m (cv 6) (cv 7) (si v 0 0) := PR_KV h.1 (LF.refl _) (KV_0 v)
  have fin : INV cv T B (si v 0 0) := ⟨n, m, inv_kv h (LF.refl _) (KV_0 v)⟩
  unfold f_X11_rests f_X12_rests f_X12_restOf
  rcases twoR (X := cv 0) hP a1 a2 with ⟨p, q, hp, hq, rfl, rfl, e1, e2⟩ | ⟨e1, e2⟩
  · simp only [e1, e2, pu_bnd, n10, ↓reduceIte]
    obtain ⟨r, r', h1, h2, h3⟩ := itr2 (A := fun s : Int32 × Int32 => f_X11_rests_s16 N (cv 0) (cv 6) (nI p) (nI q) s.1 s.2) (B := fun s : Int32 × Int32 => f_X12_restOf_s6 N (si v 0 0) (nI p) (nI q) (-1) s.1 s.2) (fun k s s' => ∃ i c, k = 4 - i ∧ i ≤ 4 ∧ c ≤ i ∧ s = (nI c, nI i) ∧ s' = (nI c, nI i)) (fun r r' => r = r') (by
      intro k s s' hR
      obtain ⟨i, c, hk, hi, hc, rfl, rfl⟩ := hR
      simp only
      unfold f_X11_rests_s16 f_X12_restOf_s6 f_X11_rests_b57 f_X12_restOf_b54
      rcases Nat.lt_or_ge i 4 with hlt | hge
      · left
        obtain ⟨z, z1, z2⟩ := restE hP hp hq i hlt
        simp only [if_neg (show ¬ (4 : Int32) ≤ nI (i) from nI_ge (a := i) (b := 4) (by omega) (by omega)), tra5 hP hp, tra5 hP hq, pu_bnd, z1, z2, if_neg (nI_m1 (show c < 2 ^ 31 by omega))]
        by_cases e : z = 0
        · simp only [if_pos e]; exact ⟨4 - (i + 1), _, _, by omega, rfl, rfl, i + 1, c, rfl, by omega, by omega, by rw [nI_1], by rw [nI_1]⟩
        · simp only [if_neg e]; exact ⟨4 - (i + 1), _, _, by omega, rfl, rfl, i + 1, c + 1, rfl, by omega, by omega, by rw [nI_1, nI_1], by rw [nI_1, nI_1]⟩
      · right
        have : i = 4 := by omega
        subst this
        simp only [if_pos (show (4 : Int32) ≤ nI 4 from by decide), if_pos, pu_inrO]
        exact ⟨_, _, rfl, rfl, rfl⟩) N 4 (0, 0) (0, 0) (by omega) ⟨0, 0, rfl, by omega, by omega, rfl, rfl⟩
    subst h3
    rw [h1, h2, pu_bnd]
    exact ⟨_, _, rfl, rfl, fin⟩
  · simp only [e1, e2, pu_bnd, ↓reduceIte]; exact ⟨_, _, rfl, rfl, fin⟩
theorem st_rest (N : Nat) (hN : 66 < N) : ST_rest N INV := by
  intro cv T B v a1 a2 a3 hI
  obtain ⟨n, m, h⟩ := hI
  have hP : PR n m (cv 6) (cv 7) (si v 0 0) := PR_KV h.1 (LF.refl _) (KV_0 v)
  have fin : INV cv T B (si v 0 0) := ⟨n, m, inv_kv h (LF.refl _) (KV_0 v)⟩
  unfold f_X11_rest f_X12_rest f_X12_restOf
  rcases twoR (X := cv 0) hP a1 a2 with ⟨p, q, hp, hq, rfl, rfl, e1, e2⟩ | ⟨e1, e2⟩
  · simp only [e1, e2, pu_bnd, n10, ↓reduceIte]
    by_cases c0 : a3 < 0
    · simp only [if_neg (Int32.not_le.mpr c0), if_pos c0]; exact ⟨_, _, rfl, rfl, fin⟩
    simp only [if_pos (Int32.not_lt.mp c0), if_neg c0]
    obtain ⟨K, hK, rfl⟩ := nI_of c0
    obtain ⟨r, r', h1, h2, h3⟩ := itr2 (A := fun s : Int32 × Int32 => f_X11_rest_s21 N (cv 0) (cv 6) (nI p) (nI q) s.1 s.2) (B := fun s : Int32 × Int32 => f_X12_restOf_s6 N (si v 0 0) (nI p) (nI q) (nI K) s.1 s.2) (fun k s s' => ∃ i c, k = 4 - i ∧ i ≤ 4 ∧ c ≤ i ∧ c ≤ K ∧ s = (nI (K - c), nI i) ∧ s' = (nI c, nI i)) (fun r r' => r = r') (by
      intro k s s' hR
      obtain ⟨i, c, hk, hi, hc, hcK, rfl, rfl⟩ := hR
      simp only
      unfold f_X11_rest_s21 f_X12_restOf_s6 f_X11_rest_b80 f_X12_restOf_b54
      rcases Nat.lt_or_ge i 4 with hlt | hge
      · obtain ⟨z, z1, z2⟩ := restE hP hp hq i hlt
        have e1 : nI i >>> ((1 : Int32) &&& 31) = nI i / 2 := by
          have : i = 0 ∨ i = 1 ∨ i = 2 ∨ i = 3 := by omega
          rcases this with rfl | rfl | rfl | rfl <;> decide
        have e2 : nI i &&& 1 = nI i - nI i / 2 * 2 := by
          have : i = 0 ∨ i = 1 ∨ i = 2 ∨ i = 3 := by omega
          rcases this with rfl | rfl | rfl | rfl <;> decide
        simp only [if_neg (show ¬ (4 : Int32) ≤ nI (i) from nI_ge (a := i) (b := 4) (by omega) (by omega)), tra5 hP hp, tra5 hP hq, pu_bnd, z1, z2]
        by_cases e : z = 0
        · left; simp only [if_pos e]; exact ⟨4 - (i + 1), _, _, by omega, rfl, rfl, i + 1, c, rfl, by omega, by omega, hcK, by rw [nI_1], by rw [nI_1]⟩
        · simp only [if_neg e]
          by_cases ec : c = K
          · right
            subst ec
            simp only [Nat.sub_self, if_pos (show nI 0 = 0 from rfl), if_pos (show nI c = nI c from rfl), pu_inrO, e1, e2]
            exact ⟨_, _, rfl, rfl, rfl⟩
          · left
            obtain ⟨d, hd⟩ : ∃ d, K - c = d + 1 := ⟨K - c - 1, by omega⟩
            have n1 : ¬ nI (d + 1) = 0 := nI_ne0 (by omega) (by omega)
            have n2 : ¬ nI c = nI K := fun e' => ec ((nI_eq (by omega) hK).mp e')
            simp only [hd, if_neg n1, if_neg n2]
            exact ⟨4 - (i + 1), _, _, by omega, rfl, rfl, i + 1, c + 1, rfl, by omega, by omega, by omega, by rw [nI_1, pk_m1, show K - (c + 1) = d by omega], by rw [nI_1, nI_1]⟩
      · right
        have : i = 4 := by omega
        subst this
        simp only [if_pos (show (4 : Int32) ≤ nI 4 from by decide), if_neg (nI_m1 hK), pu_inrO]
        exact ⟨_, _, rfl, rfl, rfl⟩) N 4 (nI K, 0) (0, 0) (by omega) ⟨0, 0, rfl, by omega, by omega, by omega, rfl, rfl⟩
    subst h3
    rw [h1, h2, pu_bnd]
    exact ⟨_, _, rfl, rfl, fin⟩
  · simp only [e1, e2, pu_bnd, ↓reduceIte]; exact ⟨_, _, rfl, rfl, fin⟩
/-- what a party would choose by prices: the loops of both sides -/
theorem chooseR (N : Nat) (hN : 66 < N) {n m p : Nat} {P L v w : VV} (h : PR n m P L v) (hp : p < n) {A : Int32 × Int32 × Int32 → Option ((Int32 × Int32 × Int32) ⊕ Int32)} {d : Nat → Int32}
    (hA : ∀ x y i, i < m → A (x, y, nI i) = if v.2.1 6 (3 * p + i) - d i ≤ y then some (.inl (x, y, nI (i + 1))) else some (.inl (nI i, v.2.1 6 (3 * p + i) - d i, nI (i + 1)))) (hX : ∀ x y, A (x, y, nI m) = some (.inr x)) (hw : ∀ k, k ≤ 15 → w.2.1 k = v.2.1 k) (hd : ∀ t, t < m → w.2.1 62 t = d t) :
    ∃ r r', itr A N (-1, -1, 0) = some r ∧ f_X12_choiceOf N w (nI p) = some r' ∧ ((r = -1 ∧ r' = -2) ∨ ∃ t, t < m ∧ r = nI t ∧ r' = nI t) := by
  have hn := PR_n h
  have hm := PR_m h
  unfold f_X12_choiceOf
  refine itr2 (fun k s s' => ∃ i, k = m - i ∧ i ≤ m ∧ s.2.2 = nI i ∧ s'.2.2 = nI i ∧ ((s.1 = -1 ∧ s.2.1 = -1 ∧ s'.1 = -2) ∨ ∃ t, t < m ∧ s.1 = nI t ∧ s'.1 = nI t ∧ s.2.1 = s'.2.1 ∧ ¬ s.2.1 < 0)) (fun r r' => (r = -1 ∧ r' = -2) ∨ ∃ t, t < m ∧ r = nI t ∧ r' = nI t) ?_ N m _ _ (by omega) ⟨0, rfl, by omega, rfl, rfl, Or.inl ⟨rfl, rfl, rfl⟩⟩
  intro k s s' hR
  obtain ⟨s1, s2, s3⟩ := s
  obtain ⟨t1, t2, t3⟩ := s'
  obtain ⟨i, hk, hi, e1, e2, hc⟩ := hR
  simp only at e1 e2 hc
  subst e1 e2
  simp only
  unfold f_X12_choiceOf_s8 f_X12_choiceOf_b58 f_X12_choiceOf_b64
  rw [hw 3 (by omega), PR_v2 h]
  rcases Nat.lt_or_ge i m with hlt | hge
  · left
    rw [hA s1 s2 i hlt, if_neg (nI_ge hlt (by omega)), pu_3, pu_gin (show 3 * p + i < 48 by omega) (show 48 < 2 ^ 31 by omega), pu_gin (show i < 3 by omega) (show 3 < 2 ^ 31 by omega), nI_clamp (show 3 * p + i < 2 ^ 31 by omega), nI_clamp (show i < 2 ^ 31 by omega), hw 6 (by omega), hd i hlt, nI_1]
    generalize v.2.1 6 (3 * p + i) - d i = g
    have fin : ∀ a b : Int32, ∀ (x : (a = -1 ∧ b = -1) ∨ True), True := fun _ _ _ => trivial
    rcases hc with ⟨f1, f2, f3⟩ | ⟨t, ht, f1, f2, f3, f4⟩
    · subst f1 f2 f3
      by_cases hg : g < 0
      · have : g ≤ -1 := by
          rw [Int32.lt_iff_toInt_lt] at hg
          rw [Int32.le_iff_toInt_le]
          have : (0 : Int32).toInt = 0 := by decide
          have : (-1 : Int32).toInt = -1 := by decide
          omega
        rw [if_pos this, if_pos hg]
        exact ⟨m - (i + 1), _, _, by omega, rfl, rfl, i + 1, rfl, hlt, rfl, rfl, Or.inl ⟨rfl, rfl, rfl⟩⟩
      · have : ¬ g ≤ -1 := by
          rw [Int32.lt_iff_toInt_lt] at hg
          rw [Int32.le_iff_toInt_le]
          have : (0 : Int32).toInt = 0 := by decide
          have : (-1 : Int32).toInt = -1 := by decide
          omega
        rw [if_neg this, if_neg hg, if_pos (by decide)]
        exact ⟨m - (i + 1), _, _, by omega, rfl, rfl, i + 1, rfl, hlt, rfl, rfl, Or.inr ⟨i, hlt, rfl, rfl, rfl, hg⟩⟩
    · subst f1 f2 f3
      by_cases hg : g ≤ s2
      · rw [if_pos hg, if_neg (show ¬ s2 < g from Int32.not_lt.mpr hg), if_neg (nI_pos (show t < 2 ^ 31 by omega)), ite_self]
        exact ⟨m - (i + 1), _, _, by omega, rfl, rfl, i + 1, rfl, hlt, rfl, rfl, Or.inr ⟨t, ht, rfl, rfl, rfl, f4⟩⟩
      · have hg' : ¬ g < 0 := fun h => f4 (i_lt_le (Int32.not_le.mp hg) (Int32.le_of_lt h))
        rw [if_neg hg, if_neg hg', if_neg (nI_pos (show t < 2 ^ 31 by omega)), if_pos (show s2 < g from Int32.not_le.mp hg)]
        exact ⟨m - (i + 1), _, _, by omega, rfl, rfl, i + 1, rfl, hlt, rfl, rfl, Or.inr ⟨i, hlt, rfl, rfl, rfl, hg'⟩⟩
  · right
    have : i = m := by omega
    subst this
    rw [hX, if_pos (nI_le (Nat.le_refl i) (by omega)), pu_inrO]
    refine ⟨_, _, rfl, rfl, ?_⟩
    rcases hc with ⟨f1, f2, f3⟩ | ⟨t, ht, f1, f2, f3, f4⟩
    · exact Or.inl ⟨f1, f3⟩
    · exact Or.inr ⟨t, ht, f1, f2⟩
theorem st_choice (N : Nat) (hN : 66 < N) : ST_choice N INV := by
  intro cv T B v a1 hI
  obtain ⟨n, m, h⟩ := hI
  have hP : PR n m (cv 6) (cv 7) (si v 0 0) := PR_KV h.1 (LF.refl _) (KV_0 v)
  have hm := PR_m hP
  have hn := PR_n hP
  have hc : carR True 0 (cv 8) (si v 0 0) := h.2.1.1
  unfold f_X11_choice f_X12_choice f_X6_chosen_S
  rcases hasP hP a1 with ⟨p, hp, rfl, e1, e2⟩ | ⟨e1, e2⟩
  · simp only [e1, e2, pu_bnd, n10, ↓reduceIte]
    obtain ⟨w0, hw0⟩ : ∃ w0 : VV, w0 = sr (sr (sr (si v 0 0) 62 0 (v.2.1 43 0)) 62 1 (v.2.1 43 1)) 62 2 (v.2.1 43 2) := ⟨_, rfl⟩
    have hkv : KV v w0 := by subst hw0; exact (KV_0 v).trans ((KV_sr 62 0 _ (by omega) (by omega)).trans ((KV_sr 62 1 _ (by omega) (by omega)).trans (KV_sr 62 2 _ (by omega) (by omega))))
    obtain ⟨r, r', h1, h2, h3⟩ := chooseR (w := w0) (d := fun t => v.2.1 43 t) (A := fun q : Int32 × Int32 × Int32 => f_X6_chosen_S_s8 N (cv 6) (cv 8) (nI p) q.1 q.2.1 q.2.2) N hN hP hp (by
      intro x y i hi
      simp only
      unfold f_X6_chosen_S_s8 f_X6_chosen_S_b54
      rw [PR_P3 hP, if_neg (nI_ge hi (by omega)), if_neg (show ¬ (3 : Int32) ≤ nI (i) from nI_ge (a := i) (b := 3) (by omega) (by omega)), traW hP hp (by omega), pu_bnd, pu_gin (show i < 3 by omega) (show 3 < 2 ^ 31 by omega), nI_clamp (show i < 2 ^ 31 by omega), nI_1, (ca3 hc (show i < 3 by omega)).2]; rfl) (by
      intro x y
      simp only
      unfold f_X6_chosen_S_s8
      rw [PR_P3 hP, if_pos (nI_le (Nat.le_refl m) (by omega)), pu_inrO]) (fun k hk => hkv.2.1 k (by omega)) (by
      intro t ht
      subst hw0
      have : t = 0 ∨ t = 1 ∨ t = 2 := by omega
      rcases this with rfl | rfl | rfl <;> rfl)
    have h5 : itr (fun q : Int32 × VV => f_X12_choice_s17 N q.2 (nI p) q.1) N (0, si v 0 0) = some (r', w0) := by
      refine itrF 3 (fun i => (nI i, if i = 0 then si v 0 0 else if i = 1 then sr (si v 0 0) 62 0 (v.2.1 43 0) else if i = 2 then sr (sr (si v 0 0) 62 0 (v.2.1 43 0)) 62 1 (v.2.1 43 1) else w0)) _ ?_ ?_ N 0 (by omega) (by omega)
      · intro i hi
        have : i = 0 ∨ i = 1 ∨ i = 2 := by omega
        rcases this with rfl | rfl | rfl
        · rfl
        · rfl
        · rw [hw0]; rfl
      · show f_X12_choice_s17 N w0 (nI p) (nI 3) = _
        unfold f_X12_choice_s17
        rw [if_pos (show (3 : Int32) ≤ nI 3 from by decide), h2]; rfl
    rw [h1, h5, pu_bnd]
    have fin : INV cv T B w0 := ⟨n, m, inv_kv h (LF.refl _) hkv⟩
    rcases h3 with ⟨rfl, rfl⟩ | ⟨t, ht, rfl, rfl⟩
    · rw [if_pos rfl]; exact ⟨_, _, rfl, rfl, fin⟩
    · rw [if_neg (nI_m1 (by omega))]; exact ⟨_, _, rfl, rfl, fin⟩
  · simp only [e1, e2, pu_bnd, ↓reduceIte]; exact ⟨_, _, rfl, rfl, n, m, inv_kv h (LF.refl _) (KV_0 v)⟩
theorem st_likes (N : Nat) (hN : 66 < N) : ST_likes N INV := by
  intro cv T B v a1 a2 hI
  obtain ⟨n, m, h⟩ := hI
  have h' := inv_kv h (LF.refl _) (KV_0 v)
  obtain ⟨hP, hS, hT, hIm, hWa, hWb, hRf, hH, hU, hRd, hG, hE⟩ := id h'
  have hm := PR_m hP
  have hW := way_std hP hWa hRf
  unfold f_X11_likes f_X12_likes f_X11_areSuch f_X11_likeNow
  rcases hasP hP a1 with ⟨p, hp, rfl, e1, e2⟩ | ⟨e1, e2⟩
  · rcases hasS hP a2 with ⟨t, ht, rfl, e3, e4⟩ | ⟨e3, e4⟩
    · obtain ⟨y, L', v', g1, g2, g3, g4, g5⟩ := likeR (c := 0) N hN hP hp ht (by omega) hW.1 0 (by have := hS.1.2.2.2.2.2.2.2 t (by omega); exact this) hS.1.1.1
      replace g2 : f_X0_manner N (cv 6) (cv 7) (cv 8) (cv 12) 0 (nI p) (nI t) 0 = some (nI y, L') := g2
      replace g3 : f_X12_likeOf N (si v 0 0) 0 (nI p) (nI t) 0 = some (nI y, v') := g3
      simp only [e1, e2, e3, e4, pu_bnd, n10, ↓reduceIte, g2, g3]
      exact ⟨_, _, _, rfl, rfl, n, m, inv_kv h' g4 (KV_wk g5)⟩
    · simp only [e1, e2, e3, e4, pu_bnd, n10, ↓reduceIte]; exact ⟨_, _, _, rfl, rfl, n, m, h'⟩
  · simp only [e1, e2, pu_bnd, ↓reduceIte]; exact ⟨_, _, _, rfl, rfl, n, m, h'⟩
theorem st_stays (N : Nat) (hN : 66 < N) : ST_stays N INV := by
  intro cv T B v a1 a2 hI
  obtain ⟨n, m, h⟩ := hI
  have h' := inv_kv h (LF.refl _) (KV_0 v)
  obtain ⟨hP, hS, hT, hIm, hWa, hWb, hRf, hH, hU, hRd, hG, hE⟩ := id h'
  have hm := PR_m hP
  have hW := way_std hP hWa hRf
  unfold f_X11_stays f_X12_stays f_X11_areSuch
  rcases hasP hP a1 with ⟨p, hp, rfl, e1, e2⟩ | ⟨e1, e2⟩
  · rcases hasS hP a2 with ⟨t, ht, rfl, e3, e4⟩ | ⟨e3, e4⟩
    · obtain ⟨y, L', v', g1, g2, g3, g4, g5⟩ := stayR (c := 0) N hN hP hp ht (by omega) hW.1 0 (by have := hS.1.2.2.2.2.2.2.2 t (by omega); exact this) hS.1.1.1 (by rw [hRf.1.1]; decide)
      replace g2 : f_X0_manner N (cv 6) (cv 7) (cv 8) (cv 12) 1 (nI p) (nI t) 0 = some (nI y, L') := g2
      replace g3 : f_X12_stayOf N (si v 0 0) 0 (nI p) (nI t) 0 = some (nI y, v') := g3
      simp only [e1, e2, e3, e4, pu_bnd, n10, ↓reduceIte, g2, g3]
      exact ⟨_, _, _, rfl, rfl, n, m, inv_kv h' g4 (KV_wk g5)⟩
    · simp only [e1, e2, e3, e4, pu_bnd, n10, ↓reduceIte]; exact ⟨_, _, _, rfl, rfl, n, m, h'⟩
  · simp only [e1, e2, pu_bnd, ↓reduceIte]; exact ⟨_, _, _, rfl, rfl, n, m, h'⟩
theorem st_misses (N : Nat) (hN : 66 < N) : ST_misses N INV := by
  intro cv T B v a1 a2 hI
  obtain ⟨n, m, h⟩ := hI
  have h' := inv_kv h (LF.refl _) (KV_0 v)
  obtain ⟨hP, hS, hT, hIm, hWa, hWb, hRf, hH, hU, hRd, hG, hE⟩ := id h'
  have hm := PR_m hP
  have hW := way_std hP hWa hRf
  unfold f_X11_misses f_X12_misses f_X11_areSuch
  rcases hasP hP a1 with ⟨p, hp, rfl, e1, e2⟩ | ⟨e1, e2⟩
  · rcases hasS hP a2 with ⟨t, ht, rfl, e3, e4⟩ | ⟨e3, e4⟩
    · obtain ⟨y, L', v', g1, g2, g3, g4, g5⟩ := missR (c := 0) N hN hP hp ht (by omega) hW.1 0 (by have := hS.1.2.2.2.2.2.2.2 t (by omega); exact this) hS.1.1.1 (by rw [hRf.1.1]; decide)
      replace g2 : f_X0_manner N (cv 6) (cv 7) (cv 8) (cv 12) 2 (nI p) (nI t) 0 = some (nI y, L') := g2
      replace g3 : f_X12_missOf N (si v 0 0) 0 (nI p) (nI t) 0 = some (nI y, v') := g3
      simp only [e1, e2, e3, e4, pu_bnd, n10, ↓reduceIte, g2, g3]
      exact ⟨_, _, _, rfl, rfl, n, m, inv_kv h' g4 (KV_wk g5)⟩
    · simp only [e1, e2, e3, e4, pu_bnd, n10, ↓reduceIte]; exact ⟨_, _, _, rfl, rfl, n, m, h'⟩
  · simp only [e1, e2, pu_bnd, ↓reduceIte]; exact ⟨_, _, _, rfl, rfl, n, m, h'⟩
theorem st_law (N : Nat) (hN : 66 < N) : ST_law N INV := by
  intro cv T B v a1 a2 a3 a4 hI
  obtain ⟨n, m, h⟩ := hI
  have h' := inv_kv h (LF.refl _) (KV_0 v)
  obtain ⟨hP, hS, hT, hIm, hWa, hWb, hRf, hH, hU, hRd, hG, hE⟩ := id h'
  have hm := PR_m hP
  have hW := way_std hP hWa hRf
  unfold f_X11_law f_X12_law f_X11_areSuch f_X11_law_b31 f_X12_law_b51
  have bad : ∃ (r : Int64) (n0 : VV) (v1 : VV), some ((-9223372036854775808 : Int64), cv 7) = some (r, n0) ∧ some ((-9223372036854775808 : Int64), si v 0 0) = some (r, v1) ∧ INV (uc cv 7 n0) T B v1 := ⟨_, _, _, rfl, rfl, n, m, h'⟩
  rcases pk_ix a1 (n := 3) (by omega) with c1 | c1 | ⟨r, hr, rfl⟩
  · simp only [if_pos c1]; exact bad
  · have c1' : (3 : Int32) ≤ a1 := c1
    have c2 : (2 : Int32) < a1 := i_lt_le (by decide) c1'
    simp only [if_pos c1', if_pos c2, ite_self]; exact bad
  · simp only [if_neg (nI_pos (show r < 2 ^ 31 by omega)), if_neg (show ¬ (3 : Int32) ≤ nI (r) from nI_ge (a := r) (b := 3) (by omega) (by omega)), if_neg (show ¬ (2 : Int32) < nI (r) from nI_nlt (a := 2) (b := r) (by omega) (by omega))]
    obtain ⟨a, b, q1, q2, q3, q4, q5, q6, q7, q8⟩ := PR_law hP hr
    have hlaw : f_X12_hasLaw (si v 0 0) (nI r) = some (if a < b then 1 else 0) := by
      unfold f_X12_hasLaw
      rw [pu_gin (show r < 6 by omega) (show 6 < 2 ^ 31 by omega), pu_gin (show r < 6 by omega) (show 6 < 2 ^ 31 by omega), nI_clamp (show r < 2 ^ 31 by omega), q2, q4]
      by_cases hab : a < b
      · rw [if_neg (nI_ge hab (by omega)), if_pos hab]
      · rw [if_pos (nI_le (show b ≤ a by omega) (by omega)), if_neg hab]
    rcases hasP hP a2 with ⟨p, hp, rfl, e1, e2⟩ | ⟨e1, e2⟩
    · rcases hasS hP a3 with ⟨t, ht, rfl, e3, e4⟩ | ⟨e3, e4⟩
      · simp only [e1, e2, e3, e4, pu_bnd, n10, ↓reduceIte, hlaw]
        by_cases c4 : a4 < 0
        · simp only [if_pos c4, ite_self]; exact bad
        simp only [if_neg c4]
        by_cases c5 : a4 ≤ 999
        · simp only [if_pos c5]
          obtain ⟨L1, v1, k1, k2, k3, k4, k5, k6, k7, k8, k9⟩ := lookR (c := 0) hP hp ht (by omega) hW.1 a4 (by have := hS.1.2.2.2.2.2.2.2 t (by omega); exact this) hS.1.1.1
          replace k2 : f_X12_calls (si v 0 0) 0 (nI p) (nI t) a4 = some v1 := k2
          obtain ⟨x, LL, q, j1, j2, j3, j4, j5⟩ := work_goes N hN L1 v1 r hr (PR_law (PR_LF hP k3 ⟨k5, fun k _ => by rw [k4]⟩) hr) k6
          have hq : q = if a < b then 1 else 0 := by
            have : f_X12_hasLaw v1 (nI r) = f_X12_hasLaw (si v 0 0) (nI r) := by unfold f_X12_hasLaw; rw [k5]
            rw [this, hlaw] at j4
            injection j4 with j4; exact j4.symm
          have hLF : LF (cv 7) LL := ⟨j2.trans k3.1, fun k hk => by rw [j3]; exact k3.2 k hk⟩
          simp only [k1, k2, j1, pu_bnd]
          by_cases hab : a < b
          · rw [if_pos hab] at hq
            rcases j5 with ⟨hq0, _⟩ | ⟨_, z, v2, g1, g2, g3⟩
            · rw [hq] at hq0; exact absurd hq0 (by decide)
            · simp only [if_pos hab, n10, ↓reduceIte, g1, pu_bnd]
              have hkv : KV (si v 0 0) v2 := (KV_wk ⟨k5, fun k _ => by rw [k4]⟩).trans (KV_wk ⟨g2.1, g2.2.1⟩)
              rcases g3 with ⟨rfl, rfl⟩ | ⟨_, rfl, g5⟩
              · simp only [↓reduceIte]; exact ⟨_, _, _, rfl, rfl, n, m, inv_kv h' hLF hkv⟩
              · simp only [n10, ↓reduceIte, g5]; exact ⟨_, _, _, rfl, rfl, n, m, inv_kv h' hLF hkv⟩
          · rw [if_neg hab] at hq
            rcases j5 with ⟨_, hx⟩ | ⟨hq1, _⟩
            · simp only [if_neg hab, ↓reduceIte, hx]; exact ⟨_, _, _, rfl, rfl, n, m, inv_kv h' hLF (KV.refl _)⟩
            · rw [hq] at hq1; exact absurd hq1 (by decide)
        · simp only [if_neg c5, ite_self]; exact bad
      · simp only [e1, e2, e3, e4, pu_bnd, n10, ↓reduceIte, hlaw, ite_self]; exact bad
    · simp only [e1, e2, pu_bnd, ↓reduceIte, hlaw, ite_self]; exact bad
theorem st_known (N : Nat) : ST_known N INV := by
  intro cv T B v a1 hI
  obtain ⟨n, m, h⟩ := hI
  have h' := inv_kv h (LF.refl _) (KV_0 v)
  obtain ⟨hP, hS, hT, hIm, hWa, hWb, hRf, hH, hU, hRd, hG, hE⟩ := id h'
  obtain ⟨k, hk, u1, u2, u3, u4, u5⟩ := id hU
  replace u2 : v.1 64 = nI k := u2
  unfold f_X11_known f_X12_known
  by_cases c1 : a1 < -1
  · simp only [if_pos c1]; exact ⟨_, _, _, rfl, rfl, n, m, h'⟩
  simp only [if_neg c1, u1, u2]
  by_cases c2 : a1 ≤ nI k
  · simp only [if_pos c2]
    refine ⟨_, _, _, rfl, rfl, n, m, hP, hS, hT, hIm, hWa, hWb, hRf, hH_tr (v := si v 0 0) (PR_m hP) rfl (fun i => cs_refl _ (si v 0 0)) hH, ⟨k, hk, u1, u2, rfl, ?_, u5⟩, hRd, hG, hE⟩
    show a1 = -1 ∨ ∃ j : Nat, j ≤ k ∧ a1 = nI j
    by_cases c3 : a1 < 0
    · left
      rw [Int32.lt_iff_toInt_lt] at c1 c3
      have e0 : (0 : Int32).toInt = 0 := by decide
      have e1 : (-1 : Int32).toInt = -1 := by decide
      exact Int32.toInt_inj.mp (by omega)
    · right
      obtain ⟨j, hj, rfl⟩ := nI_of c3
      exact ⟨j, (nI_leI hj (by omega)).mp c2, rfl⟩
  · simp only [if_neg c2]; exact ⟨_, _, _, rfl, rfl, n, m, h'⟩
theorem st_out (N : Nat) : ST_out N INV := by
  intro cv T B v a1 hI
  obtain ⟨n, m, h⟩ := hI
  have h' := inv_kv h (LF.refl _) (KV_0 v)
  obtain ⟨hP, hS, hT, hIm, hWa, hWb, hRf, hH, hU, hRd, hG, hE⟩ := id h'
  obtain ⟨k, hk, u1, u2, u3, u4, u5⟩ := id hU
  replace u2 : v.1 64 = nI k := u2
  unfold f_X11_out f_X12_out f_X5_has f_X5_add
  simp only [u1, u2]
  rcases pk_ix a1 (n := k) (by omega) with c1 | c1 | ⟨j, hj, rfl⟩
  · simp only [if_pos c1, pu_bnd, ↓reduceIte]; exact ⟨_, _, _, rfl, rfl, n, m, h'⟩
  · by_cases c0 : a1 < 0
    · simp only [if_pos c0, pu_bnd, ↓reduceIte]; exact ⟨_, _, _, rfl, rfl, n, m, h'⟩
    · simp only [if_neg c0, if_pos c1, pu_bnd, ↓reduceIte]; exact ⟨_, _, _, rfl, rfl, n, m, h'⟩
  · simp only [if_neg (nI_pos (show j < 2 ^ 31 by omega)), if_neg (nI_ge hj (show k < 2 ^ 31 by omega)), pu_bnd, n10, ↓reduceIte]
    by_cases c2 : k = 24
    · subst c2
      simp only [if_neg (show ¬ nI 24 < 24 from by decide), if_pos (show nI 24 = 24 from rfl), pu_bnd]
      exact ⟨_, _, _, rfl, rfl, n, m, h'⟩
    · simp only [if_pos (show nI (k) < (24 : Int32) from nI_lt (a := k) (b := 24) (by omega) (by omega)), if_neg (show ¬ nI (k) = (24 : Int32) from fun h => absurd ((nI_eq (a := k) (b := 24) (by omega) (by omega)).mp h) (by omega)), pu_gin (show k < 24 by omega) (show 24 < 2 ^ 31 by omega), nI_clamp (show k < 2 ^ 31 by omega), pu_bnd, nI_1, nI_pred]
      refine ⟨_, _, _, rfl, rfl, n, m, hP, hS, hT, hIm, hWa, hWb, hRf, hH_tr (v := si v 0 0) (PR_m hP) rfl (fun i => cs_sr (v := si v 0 0) 69 k (nI j) (by omega)) hH, ⟨k + 1, by omega, rfl, rfl, u3, ?_, ?_⟩, hRd, hG, hE⟩
      · rcases u4 with e | ⟨i, hi, e⟩
        · exact Or.inl e
        · exact Or.inr ⟨i, by omega, e⟩
      · intro i hi
        by_cases e : i = k
        · subst e
          left
          refine ⟨?_, j, hj, ?_, ?_⟩
          · show upd ((cv 16).2.1 0) i 2 i = 2; rw [pk_us]
          · show upd ((cv 16).2.1 1) i (nI j) i = nI j; rw [pk_us]
          · show upd (v.2.1 69) i (nI j) i = nI j; rw [pk_us]
        · have := u5 i (by omega)
          show (upd ((cv 16).2.1 0) k 2 i = 2 ∧ ∃ j' : Nat, j' < i ∧ upd ((cv 16).2.1 1) k (nI j) i = nI j' ∧ upd (v.2.1 69) k (nI j) i = nI j') ∨ (upd (v.2.1 69) k (nI j) i = -1 ∧ (∃ t : Nat, t < m ∧ upd ((cv 16).2.1 1) k (nI j) i = nI t ∧ v.2.1 66 i = nI t) ∧ upd ((cv 16).2.1 2) k 0 i = v.2.1 67 i ∧ ((upd ((cv 16).2.1 0) k 2 i = 0 ∧ v.2.1 68 i = 0) ∨ (upd ((cv 16).2.1 0) k 2 i = 1 ∧ v.2.1 68 i = 1)))
          simp only [pk_un e]
          exact this
theorem st_note (N : Nat) : ST_note N INV := by
  intro cv T B v a1 a2 a3 hI ha3
  obtain ⟨n, m, h⟩ := hI
  have h' := inv_kv h (LF.refl _) (KV_0 v)
  obtain ⟨hP, hS, hT, hIm, hWa, hWb, hRf, hH, hU, hRd, hG, hE⟩ := id h'
  obtain ⟨k, hk, u1, u2, u3, u4, u5⟩ := id hU
  replace u2 : v.1 64 = nI k := u2
  unfold f_X11_note f_X12_note f_X11_note_b37 f_X5_add
  rcases hasS hP a1 with ⟨t, ht, rfl, e1, e2⟩ | ⟨e1, e2⟩
  · simp only [e1, e2, pu_bnd, n10, ↓reduceIte, u1, u2]
    by_cases c1 : a2 < 0
    · simp only [if_pos c1]; exact ⟨_, _, _, rfl, rfl, n, m, h'⟩
    by_cases c2 : a2 ≤ 999
    · have c2' : ¬ (999 : Int32) < a2 := Int32.not_lt.mpr c2
      simp only [if_neg c1, if_pos c2, if_neg c2']
      by_cases c3 : k = 24
      · subst c3
        simp only [if_neg (show ¬ nI 24 < 24 from by decide), if_pos (show nI 24 = 24 from rfl), pu_bnd, ite_self]
        exact ⟨_, _, _, rfl, rfl, n, m, h'⟩
      · simp only [if_pos (show nI (k) < (24 : Int32) from nI_lt (a := k) (b := 24) (by omega) (by omega)), if_neg (show ¬ nI (k) = (24 : Int32) from fun h => absurd ((nI_eq (a := k) (b := 24) (by omega) (by omega)).mp h) (by omega)), pu_gin (show k < 24 by omega) (show 24 < 2 ^ 31 by omega), nI_clamp (show k < 2 ^ 31 by omega), pu_bnd, nI_1, nI_pred]
        have key : ∀ z : Int32, (z = 0 ∨ z = 1) → a3 = z → ∃ (r : Int32) (n0 : VV) (v1 : VV), some (nI k, si (sr (sr (sr (cv 16) 0 k z) 1 k (nI t)) 2 k a2) 4 (nI (k + 1))) = some (r, n0) ∧ gbz a3 (some (nI k, si (sr (sr (sr (sr (si v 0 0) 66 k (nI t)) 67 k a2) 68 k a3) 69 k (-1)) 64 (nI (k + 1)))) = some (r, v1) ∧ INV (uc cv 16 n0) T B v1 := by
          intro z hz hzz
          subst hzz
          unfold gbz
          rw [if_pos hz]
          refine ⟨_, _, _, rfl, rfl, n, m, hP, hS, hT, hIm, hWa, hWb, hRf, hH_tr (v := si v 0 0) (PR_m hP) rfl (fun i => cs_tr (cs_sr (v := si v 0 0) 66 k (nI t) (by omega)) (cs_tr (cs_sr 67 k a2 (by omega)) (cs_tr (cs_sr 68 k a3 (by omega)) (cs_sr 69 k (-1) (by omega))))) hH, ⟨k + 1, by omega, rfl, rfl, u3, ?_, ?_⟩, hRd, hG, hE⟩
          · rcases u4 with e | ⟨i, hi, e⟩
            · exact Or.inl e
            · exact Or.inr ⟨i, by omega, e⟩
          · intro i hi
            show (upd ((cv 16).2.1 0) k a3 i = 2 ∧ ∃ j' : Nat, j' < i ∧ upd ((cv 16).2.1 1) k (nI t) i = nI j' ∧ upd (v.2.1 69) k (-1) i = nI j') ∨ (upd (v.2.1 69) k (-1) i = -1 ∧ (∃ t' : Nat, t' < m ∧ upd ((cv 16).2.1 1) k (nI t) i = nI t' ∧ upd (v.2.1 66) k (nI t) i = nI t') ∧ upd ((cv 16).2.1 2) k a2 i = upd (v.2.1 67) k a2 i ∧ ((upd ((cv 16).2.1 0) k a3 i = 0 ∧ upd (v.2.1 68) k a3 i = 0) ∨ (upd ((cv 16).2.1 0) k a3 i = 1 ∧ upd (v.2.1 68) k a3 i = 1)))
            by_cases e : i = k
            · subst e
              simp only [pk_us]
              right
              refine ⟨trivial, ⟨t, ht, rfl, rfl⟩, trivial, ?_⟩
              rcases hz with hz | hz
              · exact Or.inl ⟨hz, hz⟩
              · exact Or.inr ⟨hz, hz⟩
            · simp only [pk_un e]
              exact u5 i (by omega)
        rcases ha3 with rfl | rfl
        · simp only [↓reduceIte]; exact key 0 (Or.inl rfl) rfl
        · simp only [n10, ↓reduceIte]; exact key 1 (Or.inr rfl) rfl
    · have c2' : (999 : Int32) < a2 := Int32.not_le.mp c2
      simp only [if_neg c1, if_neg c2, if_pos c2']; exact ⟨_, _, _, rfl, rfl, n, m, h'⟩
  · simp only [e1, e2, pu_bnd, ↓reduceIte]; exact ⟨_, _, _, rfl, rfl, n, m, h'⟩
/-! Calls in which days go by. -/
theorem cpy0 {f g : Nat → Int32} {n j : Nat} (h : j < n) : va_cpy f g 0 0 n j = f j := by
  rw [pk_cpy_in (by omega) (by omega), show 0 + (j - 0) = j by omega]
def sameS (S S' : VV) : Prop := (S'.1 0 = S.1 0 ∧ S'.1 1 = S.1 1 ∧ S'.1 9 = S.1 9 ∧ S'.1 10 = S.1 10 ∧ S'.1 11 = S.1 11 ∧ S'.1 12 = S.1 12) ∧ (∀ p, p < 8 → S'.2.1 2 p = S.2.1 2 p ∧ S'.2.1 5 p = S.2.1 5 p ∧ S'.2.1 6 p = S.2.1 6 p ∧ S'.2.1 7 p = S.2.1 7 p ∧ S'.2.1 8 p = S.2.1 8 p) ∧ (∀ u, u < 3 → S'.2.1 3 u = S.2.1 3 u ∧ S'.2.1 4 u = S.2.1 4 u ∧ S'.2.1 13 u = S.2.1 13 u ∧ S'.2.1 14 u = S.2.1 14 u ∧ S'.2.1 15 u = S.2.1 15 u ∧ S'.2.1 16 u = S.2.1 16 u ∧ S'.2.1 17 u = S.2.1 17 u)
theorem copyR {S : VV} (Tr : VV) (h : S.1 12 = 0 ∨ S.1 12 = 1) : ∃ Tr', f_X8_copy Tr S = some Tr' ∧ sameS S Tr' := by
  unfold f_X8_copy gbz
  rw [if_pos h]
  exact ⟨_, rfl, ⟨rfl, rfl, rfl, rfl, rfl, rfl⟩, fun p hp => ⟨cpy0 hp, cpy0 hp, cpy0 hp, cpy0 hp, cpy0 hp⟩, fun u hu => ⟨cpy0 hu, cpy0 hu, cpy0 hu, cpy0 hu, cpy0 hu, cpy0 hu, cpy0 hu⟩⟩
theorem car_same {aw : Prop} {c : Nat} {S S' v : VV} (h : carR aw c S v) (hs : sameS S S') : carR aw c S' v := by
  obtain ⟨⟨d1, d2, d3, d4, d5⟩, a2, a3, a4, a5, a6, a7, a8⟩ := h
  obtain ⟨⟨e1, e2, e3, e4, e5, e6⟩, s2, s3⟩ := hs
  exact ⟨⟨e1.trans d1, e2.trans d2, e3.trans d3, e4.trans d4, e5.trans d5⟩, fun p hp => (s2 p hp).1.trans (a2 p hp), fun p hp => (s2 p hp).2.1.trans (a3 p hp), fun p hp => (s2 p hp).2.2.1.trans (a4 p hp), fun w p hp => (s2 p hp).2.2.2.1.trans (a5 w p hp), fun p hp => (s2 p hp).2.2.2.2.trans (a6 p hp), fun u hu => (s3 u hu).1.trans (a7 u hu), fun u hu => (s3 u hu).2.1.trans (a8 u hu)⟩
theorem st_same {n m c : Nat} {S S' v : VV} (hm : m ≤ 3) (h : stR n m c S v) (hs : sameS S S') : stR n m c S' v := by
  obtain ⟨h1, h2, h3, h4, h5, h6⟩ := h
  refine ⟨car_same h1 hs, ?_, fun u hu => ?_, fun p hp => ?_, fun p hp hp' => ?_, ?_⟩
  · rcases h2 with ⟨a, b⟩ | ⟨a, b⟩
    · exact Or.inl ⟨hs.1.2.2.2.2.2.trans a, b⟩
    · refine Or.inr ⟨hs.1.2.2.2.2.2.trans a, fun u hu => ?_⟩
      obtain ⟨_, _, e1, e2, e3, e4, e5⟩ := hs.2.2 u (by omega)
      rw [e1, e2, e3, e4, e5]; exact b u hu
  · rw [(hs.2.2 u hu).1]; exact h3 u hu
  · rw [(hs.2.1 p hp).1]; exact h4 p hp
  · rw [(hs.2.1 p hp').2.2.1]; exact h5 p hp hp'
  · rw [hs.1.1]; exact h6
theorem car_aw {aw : Prop} {c : Nat} {S v : VV} (h : carR True c S v) : carR aw c S v := ⟨h.1, h.2.1, h.2.2.1, h.2.2.2.1, fun _ => h.2.2.2.2.1 trivial, h.2.2.2.2.2⟩
def sgS (S : VV) : Prop := ∀ u, u < 3 → ∃ s : Nat, s ≤ 3 ∧ S.2.1 3 u = nI s
theorem sg_same {S S' : VV} (h : sgS S) (hs : sameS S S') : sgS S' := fun u hu => by rw [(hs.2.2 u hu).1]; exact h u hu
theorem seen01 {m c : Nat} {S v : VV} (h : seenR m c S v) : S.1 12 = 0 ∨ S.1 12 = 1 := by
  rcases h with ⟨a, _⟩ | ⟨a, _⟩
  · exact Or.inl a
  · exact Or.inr a
theorem nonneg_ne {x : Int32} (h : ¬ x < 0) : ¬ x = -1 := fun e => h (by rw [e]; decide)
/-- the state is copied on both sides -/
theorem try1 (N : Nat) (hN : 66 < N) {n m : Nat} {P L Y v S : VV} {bn : Int32} (Tr : VV) (hP : PR n m P L v) (hS : stR n m 0 S v) (hW : wayR n P Y v bn) :
    ∃ Tr1 w, f_X8_copy Tr S = some Tr1 ∧ f_X12_copies N v 1 0 = some w ∧ FR 1 v w ∧ PR n m P L w ∧ wayR n P Y w bn ∧ stR n m 1 Tr1 w ∧ sameS S Tr1 ∧ w.1 = v.1 := by
  obtain ⟨Tr1, h1, h2⟩ := copyR Tr (seen01 hS.2.1)
  obtain ⟨w, h3, h4⟩ := copiesR (a := 1) (b := 0) N hN v (by omega) (by omega) (by omega)
  have hF := cp_FR h4
  exact ⟨Tr1, w, h1, h3, hF, PR_FR hP (LF.refl L) hF, way_FR hW hF, st_cs (PR_m hP) (st_same (PR_m hP) hS h2) (cs_cp h4), h2, h4.1⟩
/-- a day in car 1 -/
theorem day1 (N : Nat) (hN : 66 < N) {n m : Nat} {aw : Prop} {P L Y v S : VV} {bn : Int32} (C : VV) (hP : PR n m P L v) (hW : wayR n P Y v bn) (haw : v.1 50 = 2 → ¬ aw) (hc : carR aw 1 S v) (hs : sgS S) :
    ∃ C' L' S' w, f_X0_goThrough N C P L S Y = some (C', L', S') ∧ f_X12_passes N v 1 bn = some w ∧ FR 1 v w ∧ LF L L' ∧ PR n m P L' w ∧ wayR n P Y w bn ∧ carR aw 1 S' w ∧ sgS S' ∧ dayR 1 m S' w ∧ (∀ k, k ≠ 31 → k ≠ 55 → k ≠ 56 → k ≠ 57 → w.1 k = v.1 k) := by
  obtain ⟨C', L', S', w, h1, h2, h3, h4, h5, h6, h7⟩ := day_goes (C := C) N hN hP hW (by omega) hs haw hc
  exact ⟨C', L', S', w, h1, h2, h3, h4, PR_FR hP h4 h3, way_FR hW h3, h5, fun u hu => by rw [h6.2.1]; exact hs u hu, h7, h3.1⟩
theorem todayR (N : Nat) (hN : 66 < N) {n m : Nat} {P L Y v S : VV} (X Tr C : VV) (hP : PR n m P L v) (hS : stR n m 0 S v) (hW : wayR n P Y v 0) (h50 : ¬ v.1 50 = 2) :
    ∃ L' Tr' C' w, f_X11_tryToday N X P L S Tr C Y = some (L', Tr', C') ∧ f_X12_today N v = some w ∧ FR 1 v w ∧ LF L L' ∧ dayR 1 m Tr' w ∧ PR n m P L' w := by
  obtain ⟨Tr1, w, h1, h2, h3, h4, h5, h6, h7, h8⟩ := try1 N hN Tr hP hS hW
  obtain ⟨C', L', S', w', g1, g2, g3, g4, g5, g6, g7, g8, g9, g10⟩ := day1 (aw := True) N hN C h4 h5 (fun e => absurd (h8 ▸ e) h50) h6.1 h6.2.2.1
  refine ⟨L', S', C', w', ?_, ?_, h3.trans g3, g4, g9, g5⟩
  · unfold f_X11_tryToday; simp only [h1, g1, pu_bnd]
  · unfold f_X12_today; simp only [h2, g2, pu_bnd]
theorem lateInR {m t : Nat} {S w : VV} (h : dayR 1 m S w) (ht : t < m) (hm : m ≤ 3) : f_X12_lateIn w 1 (nI t) = some (S.2.1 14 t) := by
  unfold f_X12_lateIn
  show gin (3 * nI 1 + nI t) 69 (gin (nI t) 6 (gin (nI t) 3 (some (w.2.1 44 (3 * nI 1 + nI t).toNatClampNeg - w.2.1 10 (nI t).toNatClampNeg - w.2.1 54 (nI t).toNatClampNeg)))) = _
  rw [pu_3, pu_gin (show 3 * 1 + t < 69 by omega) (show 69 < 2 ^ 31 by omega), pu_gin (show t < 6 by omega) (show 6 < 2 ^ 31 by omega), pu_gin (show t < 3 by omega) (show 3 < 2 ^ 31 by omega), nI_clamp (show 3 * 1 + t < 2 ^ 31 by omega), nI_clamp (show t < 2 ^ 31 by omega), (h t ht).2.1]
theorem st_late (N : Nat) (hN : 66 < N) : ST_late N INV := by
  intro cv T B v a1 hI
  obtain ⟨n, m, h⟩ := hI
  have h' := inv_kv h (LF.refl _) (KV_0 v)
  obtain ⟨hP, hS, hT, hIm, hWa, hWb, hRf, hH, hU, hRd, hG, hE⟩ := id h'
  have hm := PR_m hP
  have hW := way_std hP hWa hRf
  unfold f_X11_late f_X12_late
  rcases hasS hP a1 with ⟨t, ht, rfl, e1, e2⟩ | ⟨e1, e2⟩
  · obtain ⟨L', Tr', C', w, g1, g2, g3, g4, g5, _⟩ := todayR N hN (cv 0) (cv 10) (cv 11) hP hS hW (by rw [hRf.1.1]; decide)
    simp only [e1, e2, pu_bnd, n10, ↓reduceIte, g1, g2, lateInR g5 ht hm, pu_gin (show t < 3 by omega) (show 3 < 2 ^ 31 by omega), nI_clamp (show t < 2 ^ 31 by omega)]
    exact ⟨_, _, _, _, _, rfl, rfl, n, m, inv_kv h' g4 (KV_FR g3)⟩
  · simp only [e1, e2, pu_bnd, ↓reduceIte]; exact ⟨_, _, _, _, _, rfl, rfl, n, m, h'⟩
theorem st_empties (N : Nat) (hN : 66 < N) : ST_empties N INV := by
  intro cv T B v a1 hI
  obtain ⟨n, m, h⟩ := hI
  have h' := inv_kv h (LF.refl _) (KV_0 v)
  obtain ⟨hP, hS, hT, hIm, hWa, hWb, hRf, hH, hU, hRd, hG, hE⟩ := id h'
  have hm := PR_m hP
  have hW := way_std hP hWa hRf
  unfold f_X11_empties f_X12_empties
  rcases hasS hP a1 with ⟨t, ht, rfl, e1, e2⟩ | ⟨e1, e2⟩
  · obtain ⟨L', Tr', C', w, g1, g2, g3, g4, g5, g6⟩ := todayR N hN (cv 0) (cv 10) (cv 11) hP hS hW (by rw [hRf.1.1]; decide)
    have e3 : (3 : Int32) + nI t = nI (3 + t) := nI_add 3 t
    have e4 := (g5 t ht).2.2.1
    rw [show 3 * 1 + t = 3 + t by omega] at e4
    simp only [e1, e2, pu_bnd, n10, ↓reduceIte, g1, g2, pu_gin (show t < 3 by omega) (show 3 < 2 ^ 31 by omega), nI_clamp (show t < 2 ^ 31 by omega), e3, pu_gin (show 3 + t < 69 by omega) (show 69 < 2 ^ 31 by omega), nI_clamp (show 3 + t < 2 ^ 31 by omega), ← e4, ← (PR_sE g6).1]
    exact ⟨_, _, _, _, _, rfl, rfl, n, m, inv_kv h' g4 (KV_FR g3)⟩
  · simp only [e1, e2, pu_bnd, ↓reduceIte]; exact ⟨_, _, _, _, _, rfl, rfl, n, m, h'⟩
theorem st_catchUp (N : Nat) (hN : 66 < N) : ST_catchUp N INV := by
  intro cv T B v a1 hI
  obtain ⟨n, m, h⟩ := hI
  have h' := inv_kv h (LF.refl _) (KV_0 v)
  have hP0 : PR n m (cv 6) (cv 7) (si v 0 0) := h'.1
  have hm := PR_m hP0
  unfold f_X11_catchUp f_X12_catchUp
  rcases hasS hP0 a1 with ⟨t, ht, rfl, e1, e2⟩ | ⟨e1, e2⟩
  · simp only [e1, e2, pu_bnd, n10, ↓reduceIte]
    by_cases ht0 : t = 0
    · subst ht0
      simp only [if_pos (show nI 0 < 1 from by decide), if_pos (show nI 0 = 0 from rfl)]
      exact ⟨_, _, _, _, _, rfl, rfl, n, m, h'⟩
    · simp only [if_neg (show ¬ nI (t) < (1 : Int32) from nI_nlt (a := t) (b := 1) (by omega) (by omega)), if_neg (show ¬ nI (t) = (0 : Int32) from fun h => absurd ((nI_eq (a := t) (b := 0) (by omega) (by omega)).mp h) (by omega))]
      obtain ⟨u, rfl⟩ : ∃ u, t = u + 1 := ⟨t - 1, by omega⟩
      obtain ⟨r, r', k1, k2, k3⟩ := itr2 (A := fun q : Int32 × VV × VV × VV => f_X11_catchUp_s20 N (cv 0) (cv 6) q.2.1 (cv 8) q.2.2.1 q.2.2.2 (cv 12) (nI (u + 1)) q.1) (B := fun q : Int32 × VV => f_X12_catchUp_s21 N q.2 (nI (u + 1)) q.1) (fun k s s' => ∃ i, k = 4 - i ∧ i ≤ 4 ∧ s.1 = nI i ∧ s'.1 = nI i ∧ LF (cv 7) s.2.1 ∧ KV (si v 0 0) s'.2) (fun r r' => r.1 = r'.1 ∧ LF (cv 7) r.2.1 ∧ KV (si v 0 0) r'.2) (by
        intro k s s' hR
        obtain ⟨s1, L, Tr, C⟩ := s
        obtain ⟨t1, w⟩ := s'
        obtain ⟨i, hk, hi, f1, f2, f3, f4⟩ := hR
        simp only at f1 f2 f3 f4
        subst f1 f2
        simp only
        unfold f_X11_catchUp_s20 f_X12_catchUp_s21
        rcases Nat.lt_or_ge i 4 with hlt | hge
        · obtain ⟨hP, hS, hT, hIm, hWa, hWb, hRf, hH, hU, hRd, hG, hE⟩ := inv_kv h' f3 f4
          have hW := way_std hP hWa hRf
          obtain ⟨Tr1, w1, p1, p2, p3, p4, p5, p6, p7, p8⟩ := try1 N hN Tr hP hS hW
          have c1 : carR True 1 (sr Tr1 3 u (nI i)) (sr w1 42 (3 * 1 + u) (nI i)) := ⟨p6.1.1, p6.1.2.1, p6.1.2.2.1, p6.1.2.2.2.1, p6.1.2.2.2.2.1, p6.1.2.2.2.2.2.1, RE_upd p6.1.2.2.2.2.2.2.1 rfl rfl, p6.1.2.2.2.2.2.2.2⟩
          have hF1 : FR 1 w1 (sr w1 42 (3 * 1 + u) (nI i)) := FR_3 42 u (nI i) (by omega) (by omega) (by omega)
          have sg1 : sgS (sr Tr1 3 u (nI i)) := fun q hq => by
            show ∃ s : Nat, s ≤ 3 ∧ upd (Tr1.2.1 3) u (nI i) q = nI s
            by_cases e : q = u
            · subst e; rw [pk_us]; exact ⟨i, by omega, rfl⟩
            · rw [pk_un e]; exact p6.2.2.1 q hq
          obtain ⟨C', L', S', w', g1, g2, g3, g4, g5, g6, g7, g8, g9, g10⟩ := day1 (aw := True) N hN C (PR_FR p4 (LF.refl L) hF1) (way_FR p5 hF1) (fun e => absurd (show w.1 50 = 2 from by rw [← p8]; exact e) (by rw [hRf.1.1]; decide)) c1 sg1
          have x1 : nI (u + 1) - 1 = nI u := nI_pred u
          have x2 : (3 : Int32) + nI (u + 1) - 1 = nI (3 * 1 + u) := by
            rw [show (3 : Int32) + nI (u + 1) = nI (3 + u + 1) from nI_add 3 (u + 1), nI_pred]
          simp only [if_neg (show ¬ (3 : Int32) < nI (i) from nI_nlt (a := 3) (b := i) (by omega) (by omega)), p1, p2, pu_bnd, x1, x2, pu_gin (show u < 3 by omega) (show 3 < 2 ^ 31 by omega), nI_clamp (show u < 2 ^ 31 by omega), pu_gin (show 3 * 1 + u < 69 by omega) (show 69 < 2 ^ 31 by omega), nI_clamp (show 3 * 1 + u < 2 ^ 31 by omega), g1, g2, lateInR g9 ht hm, pu_gin (show u + 1 < 3 by omega) (show 3 < 2 ^ 31 by omega), nI_clamp (show u + 1 < 2 ^ 31 by omega)]
          have hkv : KV (si v 0 0) w' := f4.trans ((KV_FR p3).trans ((KV_FR hF1).trans (KV_FR g3)))
          by_cases e : S'.2.1 14 (u + 1) = 0
          · right; simp only [if_pos e, pu_inrO]; exact ⟨_, _, rfl, rfl, rfl, f3.trans g4, hkv⟩
          · left; simp only [if_neg e]; exact ⟨4 - (i + 1), _, _, by omega, rfl, rfl, i + 1, rfl, by omega, nI_1 i, nI_1 i, f3.trans g4, hkv⟩
        · right
          have : i = 4 := by omega
          subst this
          simp only [if_pos (show (3 : Int32) < nI 4 from by decide), pu_inrO]
          exact ⟨_, _, rfl, rfl, rfl, f3, f4⟩) N 4 (0, cv 7, cv 10, cv 11) (0, si v 0 0) (by omega) ⟨0, rfl, by omega, rfl, rfl, LF.refl _, KV.refl _⟩
      obtain ⟨r1, L', Tr', C'⟩ := r
      obtain ⟨r2, w⟩ := r'
      obtain ⟨q1, q2, q3⟩ := k3
      simp only at q1 q2 q3
      subst q1
      exact ⟨_, _, _, _, _, k1, k2, n, m, inv_kv h' q2 q3⟩
  · have : (if a1 < 1 then some ((-1 : Int32), cv 7, cv 10, cv 11) else bnd (f_X6_hasSitting (cv 6) a1) (fun q1 => if q1 = 0 then some ((-1), cv 7, cv 10, cv 11) else itr (fun q : Int32 × VV × VV × VV => f_X11_catchUp_s20 N (cv 0) (cv 6) q.2.1 (cv 8) q.2.2.1 q.2.2.2 (cv 12) a1 q.1) N (0, cv 7, cv 10, cv 11))) = some (-1, cv 7, cv 10, cv 11) := by
      simp only [e1, pu_bnd, ↓reduceIte, ite_self]
    rw [this, e2, pu_bnd, if_pos rfl]
    exact ⟨_, _, _, _, _, rfl, rfl, n, m, h'⟩
theorem itr2x {σ ρ σ' ρ' : Type} {A : σ → Option (σ ⊕ ρ)} {B : σ' → Option (σ' ⊕ ρ')} (R : Nat → σ → σ' → Prop) (Q : ρ → ρ' → Prop) (c : Nat)
    (h : ∀ m s s', R m s s' → (∃ m' t t', m' < m ∧ A s = some (.inl t) ∧ B s' = some (.inl t') ∧ R m' t t') ∨ (∃ r, A s = some (.inr r) ∧ ∀ n, c < n → ∃ r', itr B n s' = some r' ∧ Q r r')) :
    ∀ n n' m s s', m < n → m + c < n' → R m s s' → ∃ r r', itr A n s = some r ∧ itr B n' s' = some r' ∧ Q r r' := by
  intro n
  induction n with
  | zero => intro n' m s s' hm; omega
  | succ n ih =>
    intro n' m s s' hm hm' hR
    rcases h m s s' hR with ⟨m', t, t', hlt, ha, hb, hR'⟩ | ⟨r, ha, hq⟩
    · obtain ⟨k, rfl⟩ : ∃ k, n' = k + 1 := ⟨n' - 1, by omega⟩
      obtain ⟨r, r', h1, h2, h3⟩ := ih k m' t t' (by omega) (by omega) hR'
      exact ⟨r, r', by unfold itr; rw [ha]; exact h1, by unfold itr; rw [hb]; exact h2, h3⟩
    · obtain ⟨r', h1, h2⟩ := hq n' (by omega)
      exact ⟨r, r', by unfold itr; rw [ha], h1, h2⟩
/-- is any sitting late? -/
theorem anyR (N : Nat) (hN : 66 < N) {n m : Nat} {P L S w : VV} (hP : PR n m P L w) (hd : dayR 1 m S w) : ∃ z, f_X8_isAnyLate N S (P.1 3) = some z ∧ f_X12_isAnyLate N w = some z := by
  have hm := PR_m hP
  unfold f_X8_isAnyLate f_X12_isAnyLate
  obtain ⟨r, r', h1, h2, h3⟩ := itr2 (A := fun q : Int32 => f_X8_isAnyLate_s2 N S (P.1 3) q) (B := fun q : Int32 => f_X12_isAnyLate_s2 N w q) (fun k s s' => ∃ i, k = m - i ∧ i ≤ m ∧ s = nI i ∧ s' = nI i) (fun r r' => r = r') (by
    intro k s s' hR
    obtain ⟨i, hk, hi, rfl, rfl⟩ := hR
    unfold f_X8_isAnyLate_s2 f_X12_isAnyLate_s2
    rw [PR_P3 hP, PR_v2 hP]
    rcases Nat.lt_or_ge i m with hlt | hge
    · simp only [if_neg (nI_ge hlt (show m < 2 ^ 31 by omega)), if_neg (show ¬ (3 : Int32) ≤ nI (i) from nI_ge (a := i) (b := 3) (by omega) (by omega)), pu_gin (show i < 3 by omega) (show 3 < 2 ^ 31 by omega), nI_clamp (show i < 2 ^ 31 by omega), lateInR hd hlt hm, pu_bnd]
      by_cases e : S.2.1 14 i ≤ 0
      · left; simp only [if_pos e]; exact ⟨m - (i + 1), _, _, by omega, rfl, rfl, i + 1, rfl, hlt, nI_1 i, nI_1 i⟩
      · right; simp only [if_neg e, pu_inrO]; exact ⟨_, _, rfl, rfl, rfl⟩
    · right
      have : i = m := by omega
      subst this
      simp only [if_pos (nI_le (Nat.le_refl i) (show i < 2 ^ 31 by omega)), pu_inrO]
      exact ⟨_, _, rfl, rfl, rfl⟩) N m 0 0 (by omega) ⟨0, rfl, by omega, rfl, rfl⟩
  subst h3
  exact ⟨r, h1, h2⟩
theorem resetR (N : Nat) (hN : 66 < N) (Y : VV) : ∃ Y', f_X10_reset N Y = some Y' ∧ waR Y' 0 := by
  unfold f_X10_reset
  refine itr1 (fun k (s : Int32 × VV) => ∃ i, k = 3 - i ∧ i ≤ 3 ∧ s.1 = nI i ∧ (s.2.1 0 = 0 ∧ s.2.1 1 = 0 ∧ s.2.1 2 = 0 ∧ s.2.1 3 = -1 ∧ s.2.1 4 = -1 ∧ s.2.1 5 = 0 ∧ s.2.1 6 = 0) ∧ ∀ u, u < i → s.2.2.1 7 u = 0) (fun w => waR w 0) ?_ N 3 _ (by omega) ⟨0, rfl, by omega, rfl, ⟨rfl, rfl, rfl, rfl, rfl, rfl, rfl⟩, fun u hu => by omega⟩
  intro k s hR
  obtain ⟨s1, w⟩ := s
  obtain ⟨i, hk, hi, h1, h2, h3⟩ := hR
  simp only at h1 h2 h3
  subst h1
  simp only
  unfold f_X10_reset_s37
  rcases Nat.lt_or_ge i 3 with hlt | hge
  · left
    rw [if_neg (show ¬ (3 : Int32) ≤ nI (i) from nI_ge (a := i) (b := 3) (by omega) (by omega)), pu_gin (show i < 3 by omega) (show 3 < 2 ^ 31 by omega), nI_clamp (show i < 2 ^ 31 by omega), nI_1]
    refine ⟨3 - (i + 1), _, by omega, rfl, i + 1, rfl, by omega, rfl, h2, fun u hu => ?_⟩
    show upd (w.2.1 7) i 0 u = 0
    by_cases e : u = i
    · subst e; rw [pk_us]
    · rw [pk_un e]; exact h3 u (by omega)
  · right
    have : i = 3 := by omega
    subst this
    rw [if_pos (show (3 : Int32) ≤ nI 3 from by decide), pu_inrO]
    exact ⟨_, rfl, h2, h3⟩
/-- hands told otherwise -/
theorem way_hands {n m hh : Nat} {P L Y v : VV} (hP : PR n m P L v) (hw : waR Y 0) (hr : rfR v) (h1 : 1 ≤ hh) (h9 : hh ≤ 9) : wayR n P (si Y 6 (nI hh)) (si v 52 (nI hh)) 0 := by
  obtain ⟨g1, g2, g3, g4⟩ := way_std hP hw hr
  refine ⟨g1, g2, ⟨nI hh, nI_ne0 (by omega) (by omega), ?_, ?_⟩, g4⟩
  · unfold f_X12_handsOf
    show (if nI hh ≤ 0 then _ else some (nI hh)) = _
    rw [if_neg (nI_nle (by omega) (by omega))]
  · unfold f_X0_laying
    show (if nI hh ≤ 0 then _ else f_X0_laying_b20 P (si Y 6 (nI hh)) (nI hh)) = _
    rw [if_neg (nI_nle (by omega) (by omega)), lay_b h1 h9, (PR_sE hP).2.2.1]; rfl
theorem rf_52 {v w : VV} (h : rfR v) (hk : KV (si v 52 0) (si w 52 0)) : rfR (si w 52 0) := rf_KV (v := si v 52 0) ⟨⟨h.1.1, h.1.2.1, rfl, h.1.2.2.2⟩, h.2⟩ hk
theorem st_hands (N : Nat) (hN : 66 < N) : ST_hands N INV := by
  intro cv T B v hI
  obtain ⟨n, m, h⟩ := hI
  have h' := inv_kv h (LF.refl _) (KV_0 v)
  obtain ⟨hP0, hS0, _, _, _, _, hRf0, _⟩ := id h'
  have hm := PR_m hP0
  have h52 : si (si v 0 0) 52 0 = si v 0 0 := by
    have : (si v 0 0).1 52 = 0 := hRf0.1.2.2.1
    show ((fun q => if q = 52 then (0 : Int32) else (si v 0 0).1 q), v.2) = si v 0 0
    refine Prod.ext ?_ rfl
    funext q
    show (if q = 52 then (0 : Int32) else (si v 0 0).1 q) = (si v 0 0).1 q
    by_cases e : q = 52
    · rw [if_pos e, e, this]
    · rw [if_neg e]
  -- one try on both sides
  have one : ∀ (L Tr C Wo w : VV) (hh : Nat), 1 ≤ hh → hh ≤ 9 → LF (cv 7) L → KV (si v 0 0) (si w 52 0) → ∃ z Y' L' Tr' C' w', f_X10_reset N Wo = some Y' ∧ f_X11_tryToday N (cv 0) (cv 6) L (cv 8) Tr C (si Y' 6 (nI hh)) = some (L', Tr', C') ∧ f_X8_isAnyLate N Tr' ((cv 6).1 3) = some z ∧ f_X12_today N (si w 52 (nI hh)) = some w' ∧ f_X12_isAnyLate N w' = some z ∧ LF (cv 7) L' ∧ KV (si v 0 0) (si w' 52 0) := by
    intro L Tr C Wo w hh h1 h9 hL hk
    obtain ⟨hP, hS, _, _, _, _, hRf, _⟩ := inv_kv h' hL hk
    obtain ⟨Y', y1, y2⟩ := resetR N hN Wo
    have hW : wayR n (cv 6) (si Y' 6 (nI hh)) (si w 52 (nI hh)) 0 := by
      have := way_hands hP y2 hRf h1 h9
      rw [show si (si w 52 0) 52 (nI hh) = si w 52 (nI hh) from by
        refine Prod.ext ?_ rfl
        funext q
        show (if q = 52 then nI hh else if q = 52 then (0 : Int32) else w.1 q) = if q = 52 then nI hh else w.1 q
        by_cases e : q = 52
        · rw [if_pos e, if_pos e]
        · rw [if_neg e, if_neg e, if_neg e]] at this
      exact this
    have hP' : PR n m (cv 6) L (si w 52 (nI hh)) := hP
    have hS' : stR n m 0 (cv 8) (si w 52 (nI hh)) := hS
    obtain ⟨L', Tr', C', w', g1, g2, g3, g4, g5, g6⟩ := todayR N hN (cv 0) Tr C hP' hS' hW (show ¬ w.1 50 = 2 by rw [show w.1 50 = 0 from hRf.1.1]; decide)
    obtain ⟨z, z1, z2⟩ := anyR N hN g6 g5
    refine ⟨z, Y', L', Tr', C', w', y1, g1, z1, g2, z2, hL.trans g4, hk.trans ?_⟩
    have := KV_FR g3
    refine ⟨fun k hk => ?_, this.2.1, this.2.2⟩
    show (if k = 52 then (0 : Int32) else w'.1 k) = if k = 52 then 0 else w.1 k
    by_cases e : k = 52
    · rw [if_pos e, if_pos e]
    · rw [if_neg e, if_neg e, this.1 k hk]; show (if k = 52 then _ else w.1 k) = _; rw [if_neg e]
  -- what each number of hands gives
  obtain ⟨Z, hZ⟩ : ∃ Z : Nat → Int32, ∀ hh, 1 ≤ hh → hh ≤ 9 → ∀ L' Tr' C' Y', f_X10_reset N (cv 14) = some Y' → f_X11_tryToday N (cv 0) (cv 6) (cv 7) (cv 8) (cv 10) (cv 11) (si Y' 6 (nI hh)) = some (L', Tr', C') → f_X8_isAnyLate N Tr' ((cv 6).1 3) = some (Z hh) := by
    refine ⟨fun hh => if hx : 1 ≤ hh ∧ hh ≤ 9 then Classical.choose (one (cv 7) (cv 10) (cv 11) (cv 14) (si v 0 0) hh hx.1 hx.2 (LF.refl _) (by rw [h52]; exact KV.refl _)) else 0, fun hh h1 h9 L' Tr' C' Y' e1 e2 => ?_⟩
    simp only [dif_pos (show 1 ≤ hh ∧ hh ≤ 9 from ⟨h1, h9⟩)]
    obtain ⟨Y2, L2, Tr2, C2, w2, f1, f2, f3, _⟩ := Classical.choose_spec (one (cv 7) (cv 10) (cv 11) (cv 14) (si v 0 0) hh h1 h9 (LF.refl _) (by rw [h52]; exact KV.refl _))
    rw [e1] at f1
    injection f1 with f1
    subst f1
    rw [e2] at f2
    injection f2 with f2
    injection f2 with f2a f2b
    injection f2b with f2b f2c
    subst f2b
    exact f3
  have oneZ : ∀ (L Tr C Wo w : VV) (hh : Nat), 1 ≤ hh → hh ≤ 9 → LF (cv 7) L → KV (si v 0 0) (si w 52 0) → (∃ Y' L' Tr' C', f_X10_reset N Wo = some Y' ∧ f_X11_tryToday N (cv 0) (cv 6) L (cv 8) Tr C (si Y' 6 (nI hh)) = some (L', Tr', C') ∧ f_X8_isAnyLate N Tr' ((cv 6).1 3) = some (Z hh) ∧ LF (cv 7) L') ∧ ∃ w', f_X12_today N (si w 52 (nI hh)) = some w' ∧ f_X12_isAnyLate N w' = some (Z hh) ∧ KV (si v 0 0) (si w' 52 0) := by
    intro L Tr C Wo w hh h1 h9 hL hk
    -- the class's first state with this w: the reference's bit is Z
    obtain ⟨z, Y', L', Tr', C', w', a1, a2, a3, a4, a5, a6, a7⟩ := one (cv 7) (cv 10) (cv 11) (cv 14) w hh h1 h9 (LF.refl _) hk
    have hz := hZ hh h1 h9 L' Tr' C' Y' a1 a2
    rw [a3] at hz
    injection hz with hz
    subst hz
    obtain ⟨z2, Y2, L2, Tr2, C2, w2, b1, b2, b3, b4, b5, b6, b7⟩ := one L Tr C Wo w hh h1 h9 hL hk
    rw [a4] at b4
    injection b4 with b4
    subst b4
    rw [a5] at b5
    injection b5 with b5
    rw [← b5] at b3
    exact ⟨⟨Y2, L2, Tr2, C2, b1, b2, b3, b6⟩, w', a4, a5, a7⟩
  unfold f_X11_hands f_X12_hands
  -- the class: from 1 up
  obtain ⟨r, k1, k2⟩ := itr1 (A := fun q : Int32 × VV × VV × VV × VV => f_X11_hands_s2 N (cv 0) (cv 6) q.2.1 (cv 8) q.2.2.1 q.2.2.2.1 q.2.2.2.2 q.1) (fun k s => ∃ i, k = 10 - i ∧ 1 ≤ i ∧ i ≤ 10 ∧ s.1 = nI i ∧ LF (cv 7) s.2.1 ∧ ∀ j, 1 ≤ j → j < i → ¬ Z j = 0) (fun r => LF (cv 7) r.2.1 ∧ ((r.1 = -2 ∧ ∀ j, 1 ≤ j → j ≤ 9 → ¬ Z j = 0) ∨ ∃ i, 1 ≤ i ∧ i ≤ 9 ∧ r.1 = nI i ∧ Z i = 0 ∧ ∀ j, 1 ≤ j → j < i → ¬ Z j = 0)) (by
    intro k s hR
    obtain ⟨s1, L, Tr, C, Wo⟩ := s
    obtain ⟨i, hk, hi1, hi, f1, f2, f3⟩ := hR
    simp only at f1 f2
    subst f1
    simp only
    unfold f_X11_hands_s2
    rcases Nat.lt_or_ge i 10 with hlt | hge
    · obtain ⟨⟨Y', L', Tr', C', g1, g2, g3, g4⟩, _⟩ := oneZ L Tr C Wo (si v 0 0) i hi1 (by omega) f2 (by rw [h52]; exact KV.refl _)
      simp only [if_neg (show ¬ (9 : Int32) < nI (i) from nI_nlt (a := 9) (b := i) (by omega) (by omega)), g1, g2, g3, pu_bnd]
      by_cases e : Z i = 0
      · right; simp only [if_pos e, pu_inrO]; exact ⟨_, rfl, g4, Or.inr ⟨i, hi1, by omega, rfl, e, f3⟩⟩
      · left; simp only [if_neg e]
        refine ⟨10 - (i + 1), _, by omega, rfl, i + 1, rfl, by omega, by omega, nI_1 i, g4, fun j h1 h2 => ?_⟩
        by_cases ej : j = i
        · subst ej; exact e
        · exact f3 j h1 (by omega)
    · right
      have : i = 10 := by omega
      subst this
      simp only [if_pos (show (9 : Int32) < nI 10 from by decide), pu_inrO]
      exact ⟨_, rfl, f2, Or.inl ⟨rfl, fun j h1 h2 => f3 j h1 (by omega)⟩⟩) N 9 (1, cv 7, cv 10, cv 11, cv 14) (by omega) ⟨1, rfl, by omega, by omega, rfl, LF.refl _, fun j h1 h2 => by omega⟩
  -- the reference: from 9 down
  obtain ⟨r', j1, j2⟩ := itr1 (A := fun q : Int32 × Int32 × VV => f_X12_hands_s11 N q.2.2 q.1 q.2.1) (fun k s => ∃ i, k = i ∧ i ≤ 9 ∧ s.2.1 = nI i ∧ KV (si v 0 0) (si s.2.2 52 0) ∧ ((s.1 = -2 ∧ ∀ j, i < j → j ≤ 9 → ¬ Z j = 0) ∨ ∃ x, i < x ∧ x ≤ 9 ∧ s.1 = nI x ∧ Z x = 0 ∧ ∀ j, i < j → j < x → ¬ Z j = 0)) (fun r => KV (si v 0 0) r.2 ∧ ((r.1 = -2 ∧ ∀ j, 0 < j → j ≤ 9 → ¬ Z j = 0) ∨ ∃ x, 0 < x ∧ x ≤ 9 ∧ r.1 = nI x ∧ Z x = 0 ∧ ∀ j, 0 < j → j < x → ¬ Z j = 0)) (by
    intro k s hR
    obtain ⟨s1, s2, w⟩ := s
    obtain ⟨i, hk, hi, f1, f2, f3⟩ := hR
    simp only at f1 f2 f3
    subst f1
    simp only
    unfold f_X12_hands_s11 f_X12_hands_b34
    rcases Nat.eq_zero_or_pos i with hz | hp
    · right
      subst hz
      rw [if_pos (show nI 0 < 1 from by decide), pu_inrO]
      exact ⟨_, rfl, f2, f3⟩
    · left
      obtain ⟨_, w', g1, g2, g3⟩ := oneZ (cv 7) (cv 10) (cv 11) (cv 14) w i hp hi (LF.refl _) f2
      obtain ⟨j, rfl⟩ : ∃ j, i = j + 1 := ⟨i - 1, by omega⟩
      simp only [if_neg (show ¬ nI (j + 1) < (1 : Int32) from nI_nlt (a := j + 1) (b := 1) (by omega) (by omega)), g1, g2, pu_bnd, pk_m1]
      by_cases e : Z (j + 1) = 0
      · simp only [if_pos e]
        exact ⟨j, _, by omega, rfl, j, rfl, by omega, rfl, g3, Or.inr ⟨j + 1, by omega, hi, rfl, e, fun q h1 h2 => by omega⟩⟩
      · simp only [if_neg e]
        refine ⟨j, _, by omega, rfl, j, rfl, by omega, rfl, g3, ?_⟩
        rcases f3 with ⟨p1, p2⟩ | ⟨x, p1, p2, p3, p4, p5⟩
        · refine Or.inl ⟨p1, fun q h1 h2 => ?_⟩
          by_cases eq : q = j + 1
          · subst eq; exact e
          · exact p2 q (by omega) h2
        · refine Or.inr ⟨x, by omega, p2, p3, p4, fun q h1 h2 => ?_⟩
          by_cases eq : q = j + 1
          · subst eq; exact e
          · exact p5 q (by omega) h2) N 9 (-2, 9, si v 0 0) (by omega) ⟨9, rfl, by omega, rfl, by rw [h52]; exact KV.refl _, Or.inl ⟨rfl, fun j h1 h2 => by omega⟩⟩
  obtain ⟨r1, L', Tr', C', W'⟩ := r
  obtain ⟨r2, w⟩ := r'
  simp only at k2 j2
  have hr : r1 = r2 := by
    rcases k2.2 with ⟨p1, p2⟩ | ⟨i, p1, p2, p3, p4, p5⟩
    · rcases j2.2 with ⟨q1, q2⟩ | ⟨x, q1, q2, q3, q4, q5⟩
      · rw [p1, q1]
      · exact absurd q4 (p2 x (by omega) q2)
    · rcases j2.2 with ⟨q1, q2⟩ | ⟨x, q1, q2, q3, q4, q5⟩
      · exact absurd p4 (q2 i (by omega) p2)
      · rcases Nat.lt_trichotomy i x with hlt | heq | hgt
        · exact absurd p4 (q5 i (by omega) hlt)
        · rw [p3, q3, heq]
        · exact absurd q4 (p5 x (by omega) hgt)
  subst hr
  exact ⟨_, _, _, _, _, _, k1, j1, n, m, inv_kv h' k2.1 j2.1⟩
/-- sittings told later -/
theorem way_shift {n m : Nat} {P L Y v : VV} (hP : PR n m P L v) (hw : waR Y 0) (hr : rfR v) {Y' v' : VV} (h1 : Y'.1 = Y.1) (h2 : v'.1 50 = v.1 50 ∧ v'.1 51 = v.1 51 ∧ v'.1 52 = v.1 52 ∧ v'.1 53 = v.1 53) (h3 : v'.2.1 3 = v.2.1 3) (h4 : ∀ u, u < 3 → Y'.2.1 7 u = v'.2.1 54 u) : wayR n P Y' v' 0 := by
  obtain ⟨g1, g2, g3, g4⟩ := way_std hP hw hr
  refine ⟨?_, ?_, ?_, h4⟩
  · unfold linR at *; rw [h1, h2.2.2.2]; exact g1
  · rw [h1, h2.1, h2.2.1]; exact g2
  · unfold layR f_X12_handsOf f_X0_laying f_X0_laying_b20 at *
    rw [h1, h2.1, h2.2.2.1, h3]; exact g3
def kv54 (v w : VV) : Prop := ∃ f, KV v (sw w 54 f)
