/-! What holds between two calls. -/
theorem n10 : ((1 : Int32) = 0) = False := eq_false (by decide)
theorem cp_upd {f g : Nat → Int32} {A B i : Nat} (h : ∀ x, f x = if A ≤ x ∧ x < A + i then g (B + (x - A)) else g x) (hd : ¬ (A ≤ B + i ∧ B + i < A + i)) (x : Nat) : upd f (A + i) (f (B + i)) x = if A ≤ x ∧ x < A + (i + 1) then g (B + (x - A)) else g x := by
  rw [pu_upd, h (B + i), if_neg hd]
  by_cases e : x = A + i
  · rw [if_pos e, if_pos ⟨by omega, by omega⟩]
    congr 1; omega
  · rw [if_neg e, h x]
    by_cases hx : A ≤ x ∧ x < A + i
    · rw [if_pos hx, if_pos ⟨by omega, by omega⟩]
    · rw [if_neg hx, if_neg (by omega)]
def cpI (a b i j : Nat) (v w : VV) : Prop := w.1 = v.1 ∧ w.2.2 = v.2.2 ∧ (∀ k, k < 32 ∨ 47 < k → w.2.1 k = v.2.1 k) ∧ (∀ k, 32 ≤ k → k ≤ 36 → ∀ x, w.2.1 k x = if x = a then v.2.1 k b else v.2.1 k x) ∧ (∀ k, 37 ≤ k → k ≤ 41 → ∀ x, w.2.1 k x = if 8 * a ≤ x ∧ x < 8 * a + i then v.2.1 k (8 * b + (x - 8 * a)) else v.2.1 k x) ∧ (∀ k, 42 ≤ k → k ≤ 47 → ∀ x, w.2.1 k x = if 3 * a ≤ x ∧ x < 3 * a + j then v.2.1 k (3 * b + (x - 3 * a)) else v.2.1 k x)
theorem k5 {k a : Nat} (h : a ≤ k) (h' : k ≤ a + 4) : k = a ∨ k = a + 1 ∨ k = a + 2 ∨ k = a + 3 ∨ k = a + 4 := by omega
theorem k6 {k a : Nat} (h : a ≤ k) (h' : k ≤ a + 5) : k = a ∨ k = a + 1 ∨ k = a + 2 ∨ k = a + 3 ∨ k = a + 4 ∨ k = a + 5 := by omega
theorem copiesR (N : Nat) (hN : 66 < N) {a b : Nat} (v : VV) (ha : a < 23) (hb : b < 23) (hab : a ≠ b) : ∃ w, f_X12_copies N v (nI a) (nI b) = some w ∧ cpI a b 8 3 v w := by
  unfold f_X12_copies
  simp only [pu_gin (show a < 23 by omega) (show 23 < 2 ^ 31 by omega), pu_gin (show b < 23 by omega) (show 23 < 2 ^ 31 by omega), nI_clamp (show a < 2 ^ 31 by omega), nI_clamp (show b < 2 ^ 31 by omega)]
  refine itr1 (fun m (s : Int32 × VV) => ∃ i, m = 8 - i ∧ i ≤ 8 ∧ s.1 = nI i ∧ cpI a b i 0 v s.2) (fun w => cpI a b 8 3 v w) ?_ N 8 _ (by omega) ⟨0, rfl, by omega, rfl, ?_⟩
  · intro m s hR
    obtain ⟨s1, w⟩ := s
    obtain ⟨i, hm, hi, hs, h1, h2, h3, h4, h5, h6⟩ := hR
    simp only at hs h1 h2 h3 h4 h5 h6
    subst hs
    simp only
    unfold f_X12_copies_s62
    rcases Nat.lt_or_ge i 8 with hlt | hge
    · left
      rw [if_neg (show ¬ (8 : Int32) ≤ nI (i) from nI_ge (a := i) (b := 8) (by omega) (by omega))]
      simp only [pu_8, pu_gin (show 8 * a + i < 184 by omega) (show 184 < 2 ^ 31 by omega), pu_gin (show 8 * b + i < 184 by omega) (show 184 < 2 ^ 31 by omega), nI_clamp (show 8 * a + i < 2 ^ 31 by omega), nI_clamp (show 8 * b + i < 2 ^ 31 by omega), nI_1]
      refine ⟨8 - (i + 1), _, by omega, rfl, i + 1, rfl, by omega, rfl, h1, h2, ?_, ?_, ?_, ?_⟩
      · intro k hk
        simp only [pu_sr2, if_neg (show ¬ k = 37 by omega), if_neg (show ¬ k = 38 by omega), if_neg (show ¬ k = 39 by omega), if_neg (show ¬ k = 40 by omega), if_neg (show ¬ k = 41 by omega)]
        exact h3 k hk
      · intro k hk hk' x
        rcases k5 hk hk' with rfl | rfl | rfl | rfl | rfl
        · exact h4 32 (by omega) (by omega) x
        · exact h4 33 (by omega) (by omega) x
        · exact h4 34 (by omega) (by omega) x
        · exact h4 35 (by omega) (by omega) x
        · exact h4 36 (by omega) (by omega) x
      · intro k hk hk' x
        rcases k5 hk hk' with rfl | rfl | rfl | rfl | rfl
        · exact cp_upd (h5 37 (by omega) (by omega)) (by omega) x
        · exact cp_upd (h5 38 (by omega) (by omega)) (by omega) x
        · exact cp_upd (h5 39 (by omega) (by omega)) (by omega) x
        · exact cp_upd (h5 40 (by omega) (by omega)) (by omega) x
        · exact cp_upd (h5 41 (by omega) (by omega)) (by omega) x
      · intro k hk hk' x
        rcases k6 hk hk' with rfl | rfl | rfl | rfl | rfl | rfl
        · exact h6 42 (by omega) (by omega) x
        · exact h6 43 (by omega) (by omega) x
        · exact h6 44 (by omega) (by omega) x
        · exact h6 45 (by omega) (by omega) x
        · exact h6 46 (by omega) (by omega) x
        · exact h6 47 (by omega) (by omega) x
    · right
      have : i = 8 := by omega
      subst this
      rw [if_pos (show (8 : Int32) ≤ nI 8 from nI_le (Nat.le_refl 8) (by omega))]
      obtain ⟨r, hr, hq⟩ := itr1 (A := fun q : Int32 × VV => f_X12_copies_s162 N q.2 (nI a) (nI b) q.1) (fun m (s : Int32 × VV) => ∃ j, m = 3 - j ∧ j ≤ 3 ∧ s.1 = nI j ∧ cpI a b 8 j v s.2) (fun w => cpI a b 8 3 v w) (by
        intro m s hR
        obtain ⟨s1, w⟩ := s
        obtain ⟨i, hm, hi, hs, h1, h2, h3, h4, h5, h6⟩ := hR
        simp only at hs h1 h2 h3 h4 h5 h6
        subst hs
        simp only
        unfold f_X12_copies_s162
        rcases Nat.lt_or_ge i 3 with hlt | hge
        · left
          rw [if_neg (show ¬ (3 : Int32) ≤ nI (i) from nI_ge (a := i) (b := 3) (by omega) (by omega))]
          simp only [pu_3, pu_gin (show 3 * a + i < 69 by omega) (show 69 < 2 ^ 31 by omega), pu_gin (show 3 * b + i < 69 by omega) (show 69 < 2 ^ 31 by omega), nI_clamp (show 3 * a + i < 2 ^ 31 by omega), nI_clamp (show 3 * b + i < 2 ^ 31 by omega), nI_1]
          refine ⟨3 - (i + 1), _, by omega, rfl, i + 1, rfl, by omega, rfl, h1, h2, ?_, ?_, ?_, ?_⟩
          · intro k hk
            simp only [pu_sr2, if_neg (show ¬ k = 42 by omega), if_neg (show ¬ k = 43 by omega), if_neg (show ¬ k = 44 by omega), if_neg (show ¬ k = 45 by omega), if_neg (show ¬ k = 46 by omega), if_neg (show ¬ k = 47 by omega)]
            exact h3 k hk
          · intro k hk hk' x
            rcases k5 hk hk' with rfl | rfl | rfl | rfl | rfl
            · exact h4 32 (by omega) (by omega) x
            · exact h4 33 (by omega) (by omega) x
            · exact h4 34 (by omega) (by omega) x
            · exact h4 35 (by omega) (by omega) x
            · exact h4 36 (by omega) (by omega) x
          · intro k hk hk' x
            rcases k5 hk hk' with rfl | rfl | rfl | rfl | rfl
            · exact h5 37 (by omega) (by omega) x
            · exact h5 38 (by omega) (by omega) x
            · exact h5 39 (by omega) (by omega) x
            · exact h5 40 (by omega) (by omega) x
            · exact h5 41 (by omega) (by omega) x
          · intro k hk hk' x
            rcases k6 hk hk' with rfl | rfl | rfl | rfl | rfl | rfl
            · exact cp_upd (h6 42 (by omega) (by omega)) (by omega) x
            · exact cp_upd (h6 43 (by omega) (by omega)) (by omega) x
            · exact cp_upd (h6 44 (by omega) (by omega)) (by omega) x
            · exact cp_upd (h6 45 (by omega) (by omega)) (by omega) x
            · exact cp_upd (h6 46 (by omega) (by omega)) (by omega) x
            · exact cp_upd (h6 47 (by omega) (by omega)) (by omega) x
        · right
          have : i = 3 := by omega
          subst this
          rw [if_pos (show (3 : Int32) ≤ nI 3 from nI_le (Nat.le_refl 3) (by omega))]
          exact ⟨_, rfl, h1, h2, h3, h4, h5, h6⟩) N 3 (0, w) (by omega) ⟨0, rfl, by omega, rfl, h1, h2, h3, h4, h5, h6⟩
      exact ⟨r, by rw [hr]; rfl, hq⟩
  · refine ⟨rfl, rfl, ?_, ?_, ?_, ?_⟩
    · intro k hk
      simp only [pu_sr2, if_neg (show ¬ k = 32 by omega), if_neg (show ¬ k = 33 by omega), if_neg (show ¬ k = 34 by omega), if_neg (show ¬ k = 35 by omega), if_neg (show ¬ k = 36 by omega)]
    · intro k hk hk' x
      rcases k5 hk hk' with rfl | rfl | rfl | rfl | rfl <;> rfl
    · intro k hk hk' x
      rw [if_neg (by omega)]
      simp only [pu_sr2, if_neg (show ¬ k = 32 by omega), if_neg (show ¬ k = 33 by omega), if_neg (show ¬ k = 34 by omega), if_neg (show ¬ k = 35 by omega), if_neg (show ¬ k = 36 by omega)]
    · intro k hk hk' x
      rw [if_neg (by omega)]
      simp only [pu_sr2, if_neg (show ¬ k = 32 by omega), if_neg (show ¬ k = 33 by omega), if_neg (show ¬ k = 34 by omega), if_neg (show ¬ k = 35 by omega), if_neg (show ¬ k = 36 by omega)]
theorem cp_FR {a b : Nat} {v w : VV} (h : cpI a b 8 3 v w) : FR a v w := ⟨fun k _ _ _ _ => by rw [h.1], fun k hk => h.2.2.1 k hk, fun k j hk hk' hj => by rw [h.2.2.2.1 k hk hk' j, if_neg hj], fun k j hk hk' hj => by rw [h.2.2.2.2.1 k hk hk' j, if_neg (by omega)], fun k j hk hk' hj => by rw [h.2.2.2.2.2 k hk hk' j, if_neg (by omega)]⟩
/-- car c' of v' is as car c of v -/
def carS (c c' : Nat) (v v' : VV) : Prop := v'.2.1 10 = v.2.1 10 ∧ (∀ k, 32 ≤ k → k ≤ 36 → v'.2.1 k c' = v.2.1 k c) ∧ (∀ k, 37 ≤ k → k ≤ 41 → ∀ p, p < 8 → v'.2.1 k (8 * c' + p) = v.2.1 k (8 * c + p)) ∧ (∀ k, 42 ≤ k → k ≤ 47 → ∀ u, u < 3 → v'.2.1 k (3 * c' + u) = v.2.1 k (3 * c + u))
theorem cs_refl (c : Nat) (v : VV) : carS c c v v := ⟨rfl, fun _ _ _ => rfl, fun _ _ _ _ _ => rfl, fun _ _ _ _ _ => rfl⟩
theorem cs_cp {a b : Nat} {v w : VV} (h : cpI a b 8 3 v w) : carS b a v w := ⟨h.2.2.1 10 (by omega), fun k hk hk' => by rw [h.2.2.2.1 k hk hk', if_pos rfl], fun k hk hk' p hp => by rw [h.2.2.2.2.1 k hk hk', if_pos ⟨by omega, by omega⟩, show 8 * b + (8 * a + p - 8 * a) = 8 * b + p by omega], fun k hk hk' p hp => by rw [h.2.2.2.2.2 k hk hk', if_pos ⟨by omega, by omega⟩, show 3 * b + (3 * a + p - 3 * a) = 3 * b + p by omega]⟩
theorem cs_FR {a c : Nat} {v w : VV} (h : FR a v w) (hc : c ≠ a) : carS c c v w := ⟨h.2.1 10 (by omega), fun k hk hk' => h.2.2.1 k c hk hk' hc, fun k hk hk' p hp => h.2.2.2.1 k _ hk hk' (by omega), fun k hk hk' p hp => h.2.2.2.2 k _ hk hk' (by omega)⟩
theorem cs_tr {a b c : Nat} {u v w : VV} (h : carS a b u v) (h' : carS b c v w) : carS a c u w := ⟨h'.1.trans h.1, fun k hk hk' => (h'.2.1 k hk hk').trans (h.2.1 k hk hk'), fun k hk hk' p hp => (h'.2.2.1 k hk hk' p hp).trans (h.2.2.1 k hk hk' p hp), fun k hk hk' p hp => (h'.2.2.2 k hk hk' p hp).trans (h.2.2.2 k hk hk' p hp)⟩
theorem car_cs {aw : Prop} {c c' : Nat} {S v v' : VV} (h : carR aw c S v) (hs : carS c c' v v') : carR aw c' S v' := by
  obtain ⟨⟨d1, d2, d3, d4, d5⟩, a2, a3, a4, a5, a6, a7, a8⟩ := h
  obtain ⟨_, s1, s2, s3⟩ := hs
  refine ⟨⟨?_, ?_, ?_, ?_, ?_⟩, fun p hp => ?_, fun p hp => ?_, fun p hp => ?_, fun w p hp => ?_, fun p hp => ?_, fun p hp => ?_, fun p hp => ?_⟩
  · rw [s1 32 (by omega) (by omega)]; exact d1
  · rw [s1 36 (by omega) (by omega)]; exact d2
  · rw [s1 33 (by omega) (by omega)]; exact d3
  · rw [s1 34 (by omega) (by omega)]; exact d4
  · rw [s1 35 (by omega) (by omega)]; exact d5
  · rw [s2 37 (by omega) (by omega) p hp]; exact a2 p hp
  · rw [s2 38 (by omega) (by omega) p hp]; exact a3 p hp
  · rw [s2 39 (by omega) (by omega) p hp]; exact a4 p hp
  · rw [s2 40 (by omega) (by omega) p hp]; exact a5 w p hp
  · rw [s2 41 (by omega) (by omega) p hp]; exact a6 p hp
  · rw [s3 42 (by omega) (by omega) p hp]; exact a7 p hp
  · rw [s3 43 (by omega) (by omega) p hp]; exact a8 p hp
/-- the latest day, if one was seen -/
def seenR (m c : Nat) (S v : VV) : Prop := (S.1 12 = 0 ∧ ∀ u, u < 3 → v.2.1 44 (3 * c + u) = -1 ∧ v.2.1 45 (3 * c + u) = -1 ∧ v.2.1 46 (3 * c + u) = -1 ∧ v.2.1 47 (3 * c + u) = -1) ∨ (S.1 12 = 1 ∧ ∀ u, u < m → ¬ v.2.1 44 (3 * c + u) < 0 ∧ S.2.1 13 u = v.2.1 44 (3 * c + u) ∧ S.2.1 14 u = v.2.1 44 (3 * c + u) - v.2.1 10 u ∧ S.2.1 15 u = v.2.1 45 (3 * c + u) ∧ S.2.1 16 u = v.2.1 46 (3 * c + u) ∧ S.2.1 17 u = v.2.1 47 (3 * c + u))
theorem seen_cs {m c c' : Nat} {S v v' : VV} (hm : m ≤ 3) (h : seenR m c S v) (hs : carS c c' v v') : seenR m c' S v' := by
  obtain ⟨s0, _, _, s3⟩ := hs
  rcases h with ⟨h1, h2⟩ | ⟨h1, h2⟩
  · refine Or.inl ⟨h1, fun u hu => ?_⟩
    rw [s3 44 (by omega) (by omega) u hu, s3 45 (by omega) (by omega) u hu, s3 46 (by omega) (by omega) u hu, s3 47 (by omega) (by omega) u hu]
    exact h2 u hu
  · refine Or.inr ⟨h1, fun u hu => ?_⟩
    rw [s0, s3 44 (by omega) (by omega) u (by omega), s3 45 (by omega) (by omega) u (by omega), s3 46 (by omega) (by omega) u (by omega), s3 47 (by omega) (by omega) u (by omega)]
    exact h2 u hu
/-- what a state keeps to -/
def okS (n m : Nat) (S : VV) : Prop := (∀ u, u < 3 → ∃ s : Nat, s ≤ 3 ∧ S.2.1 3 u = nI s) ∧ (∀ p, p < 8 → S.2.1 2 p = -1 ∨ ∃ u : Nat, u < m ∧ S.2.1 2 p = nI u) ∧ (∀ p, n ≤ p → p < 8 → S.2.1 6 p = 0) ∧ (∃ d : Nat, d ≤ 9999 ∧ S.1 0 = nI d)
def stR (n m c : Nat) (S v : VV) : Prop := carR True c S v ∧ seenR m c S v ∧ okS n m S
theorem st_cs {n m c c' : Nat} {S v v' : VV} (hm : m ≤ 3) (h : stR n m c S v) (hs : carS c c' v v') : stR n m c' S v' := ⟨car_cs h.1 hs, seen_cs hm h.2.1 hs, h.2.2⟩
def bytR (x y : Int32) : Prop := ∃ b : Nat, b < 256 ∧ y = nI b ∧ x = if b < 128 then nI b else nI b - 256
def tpR (X : VV) (T : Nat → Int32) (v : VV) : Prop := ∃ k : Nat, k ≤ 700 ∧ X.1 1 = nI k ∧ v.1 2 = nI k ∧ ∀ i, i < k → bytR (T i) (v.2.1 1 i)
def imR (n m : Nat) (X Im v : VV) : Prop := (X.1 6 = 0 ∧ v.1 48 = 0) ∨ (X.1 6 = 1 ∧ v.1 48 = 1 ∧ stR n m 2 Im v)
def waR (Y : VV) (bn : Int32) : Prop := (Y.1 0 = bn ∧ Y.1 1 = 0 ∧ Y.1 2 = 0 ∧ Y.1 3 = -1 ∧ Y.1 4 = -1 ∧ Y.1 5 = 0 ∧ Y.1 6 = 0) ∧ ∀ u, u < 3 → Y.2.1 7 u = 0
def rfR (v : VV) : Prop := (v.1 50 = 0 ∧ v.1 51 = -1 ∧ v.1 52 = 0 ∧ v.1 53 = -1) ∧ ∀ u, u < 3 → v.2.1 54 u = 0
def undS (Z : VV) (i : Nat) (S : VV) : VV := if Z.2.1 0 i = 0 then sr S 2 (Z.2.1 1 i).toNatClampNeg (Z.2.1 2 i) else if Z.2.1 0 i = 1 then sr S 3 (Z.2.1 1 i).toNatClampNeg (Z.2.1 2 i) else sr S 4 (Z.2.1 1 i).toNatClampNeg (Z.2.1 2 i)
def entB (Z : VV) (i : Nat) : Prop := (Z.2.1 0 i = 0 ∧ ∃ p : Nat, p < 8 ∧ Z.2.1 1 i = nI p) ∨ (Z.2.1 0 i = 1 ∧ ∃ p : Nat, p < 3 ∧ Z.2.1 1 i = nI p) ∨ (Z.2.1 0 i = 2 ∧ ∃ p : Nat, p < 3 ∧ Z.2.1 1 i = nI p)
/-- what can be undone: each car of the reference's is the state with so much undone -/
def hsR (n m : Nat) (Z v : VV) : Nat → VV → Prop
  | 0, _ => True
  | i + 1, S => entB Z i ∧ stR n m (3 + i) (undS Z i S) v ∧ hsR n m Z v i (undS Z i S)
theorem hs_tr {n m : Nat} {Z Z' v v' : VV} (hm : m ≤ 3) : ∀ (h : Nat) (S : VV), (∀ i, i < h → Z'.2.1 0 i = Z.2.1 0 i ∧ Z'.2.1 1 i = Z.2.1 1 i ∧ Z'.2.1 2 i = Z.2.1 2 i) → (∀ i, i < h → carS (3 + i) (3 + i) v v') → hsR n m Z v h S → hsR n m Z' v' h S := by
  intro h
  induction h with
  | zero => intro S _ _ _; exact trivial
  | succ h ih =>
    intro S hz hc hs
    obtain ⟨h1, h2, h3⟩ := hs
    obtain ⟨e0, e1, e2⟩ := hz h (by omega)
    have hu : undS Z' h S = undS Z h S := by unfold undS; rw [e0, e1, e2]
    refine ⟨?_, ?_, ?_⟩
    · unfold entB at *; rw [e0, e1]; exact h1
    · rw [hu]; exact st_cs hm h2 (hc h (by omega))
    · rw [hu]; exact ih _ (fun i hi => hz i (by omega)) (fun i hi => hc i (by omega)) h3
theorem hH_tr {n m : Nat} {Z S v v' : VV} (hm : m ≤ 3) (h49 : v'.1 49 = v.1 49) (hc : ∀ i, carS (3 + i) (3 + i) v v') (h : ∃ h : Nat, h ≤ 20 ∧ Z.1 3 = nI h ∧ v.1 49 = nI h ∧ hsR n m Z v h S) : ∃ h : Nat, h ≤ 20 ∧ Z.1 3 = nI h ∧ v'.1 49 = nI h ∧ hsR n m Z v' h S := by
  obtain ⟨h, h1, h2, h3, h4⟩ := h
  exact ⟨h, h1, h2, h49.trans h3, hs_tr hm h S (fun i _ => ⟨rfl, rfl, rfl⟩) (fun i _ => hc i) h4⟩
theorem cs_sr {c : Nat} {v : VV} (k j : Nat) (x : Int32) (hk : 47 < k) : carS c c v (sr v k j x) := ⟨by rw [pu_sr2, if_neg (by omega)], fun q h1 h2 => by rw [pu_sr2, if_neg (by omega)], fun q h1 h2 p _ => by rw [pu_sr2, if_neg (by omega)], fun q h1 h2 p _ => by rw [pu_sr2, if_neg (by omega)]⟩
def ntR (m : Nat) (U v : VV) : Prop := ∃ k : Nat, k ≤ 24 ∧ U.1 4 = nI k ∧ v.1 64 = nI k ∧ U.1 5 = v.1 65 ∧ (v.1 65 = -1 ∨ ∃ j : Nat, j ≤ k ∧ v.1 65 = nI j) ∧ ∀ i, i < k → (U.2.1 0 i = 2 ∧ ∃ j : Nat, j < i ∧ U.2.1 1 i = nI j ∧ v.2.1 69 i = nI j) ∨ (v.2.1 69 i = -1 ∧ (∃ t : Nat, t < m ∧ U.2.1 1 i = nI t ∧ v.2.1 66 i = nI t) ∧ U.2.1 2 i = v.2.1 67 i ∧ ((U.2.1 0 i = 0 ∧ v.2.1 68 i = 0) ∨ (U.2.1 0 i = 1 ∧ v.2.1 68 i = 1)))
def rdR (R v : VV) : Prop := R.1 5 = v.1 25 ∧ R.1 6 = v.1 26
/-- the search for the best way: b is one more than the best sum so far, r its row -/
def bsF (m : Nat) (sz : Nat → Nat) (ok : Nat → Nat → Bool) (wt : Nat → Nat → Nat) : Nat → Nat → (Nat → Nat) → Nat → (Nat → Int32) → Nat × (Nat → Int32) → Nat × (Nat → Int32)
  | 0, _, _, s, pk, st => if st.1 ≤ s then (s + 1, pk) else st
  | k + 1, p, lf, s, pk, st => (List.range m).foldl (fun st t => if ok p t = true ∧ sz p ≤ lf t then bsF m sz ok wt k (p + 1) (fun u => if u = t then lf u - sz p else lf u) (s + wt p t) (upd pk p (nI t)) st else st) (bsF m sz ok wt k (p + 1) lf s (upd pk p (-1)) st)
def szP (P : VV) (p : Nat) : Nat := (P.2.1 (100 + p) 0).toNatClampNeg
def gvR (n m : Nat) (P D : VV) : Prop := D.1 6 = 0 ∨ (D.1 6 = 1 ∧ ∃ (cap : Nat) (ok : Nat → Nat → Bool) (wt : Nat → Nat → Nat), P.2.1 6 0 + P.2.1 6 4 = nI cap ∧ cap ≤ 198 ∧ (∀ p t, p < n → t < m → wt p t ≤ 891) ∧ (∀ p t, p < n → t < m → (ok p t = false ∧ D.2.1 (100 + p) t = -1) ∨ (ok p t = true ∧ D.2.1 (100 + p) t = nI (wt p t))) ∧ D.1 5 = nI (bsF m (szP P) ok wt n 0 (fun _ => cap) 0 (fun _ => -1) (0, fun _ => -1)).1 - 1 ∧ ∀ q, q < n → D.2.1 3 q = (bsF m (szP P) ok wt n 0 (fun _ => cap) 0 (fun _ => -1) (0, fun _ => -1)).2 q)
/-- what a party would choose by prices: the sitting and what it has of it -/
def chF (w d : Nat → Nat) : Nat → Option (Nat × Nat)
  | 0 => none
  | k + 1 => match chF w d k with
    | none => if d k ≤ w k then some (k, w k - d k) else none
    | some q => if d k ≤ w k ∧ q.2 < w k - d k then some (k, w k - d k) else some q
def chT (w d : Nat → Nat) (m t : Nat) : Bool := match chF w d m with
  | none => false
  | some q => q.1 == t
def lvN (w : Nat → Nat → Nat) (sz : Nat → Nat) (d : Nat → Nat) (m t : Nat) : Nat → Nat
  | 0 => 0
  | p + 1 => lvN w sz d m t p + (if chT (w p) d m t = true then sz p else 0)
def isLv (n m : Nat) (w : Nat → Nat → Nat) (sz : Nat → Nat) (seats : Nat) (d : Nat → Nat) : Prop := ∀ t, t < m → lvN w sz d m t n ≤ seats
def wiP (P : VV) (p t : Nat) : Nat := (P.2.1 (100 + p) (1 + t)).toNatClampNeg
def lvR (n m : Nat) (P E : VV) : Prop := E.1 3 = 0 ∨ (E.1 3 = 1 ∧ ∃ seats : Nat, P.2.1 6 0 = nI seats ∧ seats ≤ 99 ∧ ((E.1 2 = 0 ∧ ∀ d : Nat → Nat, (∀ t, t < m → d t ≤ 9) → ¬ isLv n m (wiP P) (szP P) seats d) ∨ (E.1 2 = 1 ∧ ∃ d : Nat → Nat, (∀ t, t < m → d t ≤ 9 ∧ E.2.1 0 t = nI (d t)) ∧ isLv n m (wiP P) (szP P) seats d ∧ ∀ d' : Nat → Nat, (∀ t, t < m → d' t ≤ 9) → isLv n m (wiP P) (szP P) seats d' → ∀ t, t < m → d t ≤ d' t)))
def INV0 (n m : Nat) (X : VV) (T : Nat → Int32) (R P L S Im Wa Wb Z U D E v : VV) : Prop := PR n m P L v ∧ stR n m 0 S v ∧ tpR X T v ∧ imR n m X Im v ∧ waR Wa 0 ∧ waR Wb 1 ∧ rfR v ∧ (∃ h : Nat, h ≤ 20 ∧ Z.1 3 = nI h ∧ v.1 49 = nI h ∧ hsR n m Z v h S) ∧ ntR m U v ∧ rdR R v ∧ gvR n m P D ∧ lvR n m P E
def INV (cv : Nat → VV) (T : Nat → Int32) (B : Nat → Int64) (v : VV) : Prop := ∃ n m, INV0 n m (cv 0) T (cv 2) (cv 6) (cv 7) (cv 8) (cv 9) (cv 12) (cv 13) (cv 15) (cv 16) (cv 17) (cv 18) v
/-- all but what only serves while a call runs, and car 1 -/
def KV (v v' : VV) : Prop := (∀ k, k = 2 ∨ k = 25 ∨ k = 26 ∨ (48 ≤ k ∧ k ≤ 53) ∨ k = 64 ∨ k = 65 → v'.1 k = v.1 k) ∧ (∀ k, k ≤ 15 ∨ k = 54 ∨ (66 ≤ k ∧ k ≤ 69) → v'.2.1 k = v.2.1 k) ∧ (∀ c, c ≠ 1 → carS c c v v')
theorem KV.refl (v : VV) : KV v v := ⟨fun _ _ => rfl, fun _ _ => rfl, fun c _ => cs_refl c v⟩
theorem KV.trans {u v w : VV} (h : KV u v) (h' : KV v w) : KV u w := ⟨fun k hk => (h'.1 k hk).trans (h.1 k hk), fun k hk => (h'.2.1 k hk).trans (h.2.1 k hk), fun c hc => cs_tr (h.2.2 c hc) (h'.2.2 c hc)⟩
theorem KV_si {v : VV} (k : Nat) (x : Int32) (hk : ¬ (k = 2 ∨ k = 25 ∨ k = 26 ∨ (48 ≤ k ∧ k ≤ 53) ∨ k = 64 ∨ k = 65)) : KV v (si v k x) := ⟨fun q hq => by rw [pu_si1, if_neg (by omega)], fun _ _ => rfl, fun c _ => cs_refl c v⟩
theorem KV_0 (v : VV) : KV v (si v 0 0) := KV_si 0 0 (by omega)
theorem KV_sr {v : VV} (k j : Nat) (x : Int32) (hk : 54 < k) (hk' : ¬ (66 ≤ k ∧ k ≤ 69)) : KV v (sr v k j x) := ⟨fun _ _ => rfl, fun q hq => by rw [pu_sr2, if_neg (by omega)], fun c _ => ⟨by rw [pu_sr2, if_neg (by omega)], fun q h1 h2 => by rw [pu_sr2, if_neg (by omega)], fun q h1 h2 p _ => by rw [pu_sr2, if_neg (by omega)], fun q h1 h2 p _ => by rw [pu_sr2, if_neg (by omega)]⟩⟩
theorem KV_wk {v v' : VV} (h : wkG v v') : KV v v' := ⟨fun k hk => h.2 k (by omega), fun k hk => by rw [h.1], fun c _ => by rw [show carS c c v v' ↔ carS c c v v from by unfold carS; rw [h.1]]; exact cs_refl c v⟩
theorem KV_FR {v v' : VV} (h : FR 1 v v') : KV v v' := ⟨fun k hk => h.1 k (by omega) (by omega) (by omega) (by omega), fun k hk => h.2.1 k (by omega), fun c hc => cs_FR h hc⟩
theorem PR_KV {n m : Nat} {P L v L' v' : VV} (h : PR n m P L v) (hL : LF L L') (hv : KV v v') : PR n m P L' v' := PR_tr h (fun k hk => hv.2.1 k (by omega)) (by rw [hL.1]) (fun k hk => hL.2 k (by omega))
theorem rf_KV {v v' : VV} (h : rfR v) (hv : KV v v') : rfR v' := by
  unfold rfR at *
  rw [hv.1 50 (by omega), hv.1 51 (by omega), hv.1 52 (by omega), hv.1 53 (by omega), hv.2.1 54 (by omega)]
  exact h
theorem inv_kv {n m : Nat} {X : VV} {T : Nat → Int32} {R P L S Im Wa Wb Z U D E v L' v' : VV} (h : INV0 n m X T R P L S Im Wa Wb Z U D E v) (hL : LF L L') (hv : KV v v') : INV0 n m X T R P L' S Im Wa Wb Z U D E v' := by
  obtain ⟨hP, hS, hT, hIm, hWa, hWb, hRf, hH, hU, hRd, hG, hE⟩ := h
  have hm := PR_m hP
  refine ⟨PR_KV hP hL hv, st_cs hm hS (hv.2.2 0 (by omega)), ?_, ?_, hWa, hWb, rf_KV hRf hv, ?_, ?_, ?_, hG, hE⟩
  · unfold tpR at *; rw [hv.1 2 (by omega), hv.2.1 1 (by omega)]; exact hT
  · rcases hIm with ⟨a, b⟩ | ⟨a, b, c⟩
    · exact Or.inl ⟨a, (hv.1 48 (by omega)).trans b⟩
    · exact Or.inr ⟨a, (hv.1 48 (by omega)).trans b, st_cs hm c (hv.2.2 2 (by omega))⟩
  · obtain ⟨h, h1, h2, h3, h4⟩ := hH
    exact ⟨h, h1, h2, (hv.1 49 (by omega)).trans h3, hs_tr hm h S (fun i _ => ⟨rfl, rfl, rfl⟩) (fun i _ => hv.2.2 (3 + i) (by omega)) h4⟩
  · unfold ntR at *; rw [hv.1 64 (by omega), hv.1 65 (by omega), hv.2.1 66 (by omega), hv.2.1 67 (by omega), hv.2.1 68 (by omega), hv.2.1 69 (by omega)]; exact hU
  · unfold rdR at *; rw [hv.1 25 (by omega), hv.1 26 (by omega)]; exact hRd
theorem lay_b {P Y : VV} {h : Nat} (h1 : 1 ≤ h) (h9 : h ≤ 9) : f_X0_laying_b20 P Y (nI h) = some ((P.2.1 6 2 + nI h - 1) / nI h) := by
  unfold f_X0_laying_b20
  have : jmax (nI h) 1 = nI h := by unfold jmax; rw [if_neg (show ¬ nI (h) < (1 : Int32) from nI_nlt (a := h) (b := 1) (by omega) (by omega))]
  rw [this, pu_gnz (nI_ne0 (by omega) (by omega))]
theorem way_std {n m : Nat} {P L Y v : VV} {bn : Int32} (hP : PR n m P L v) (hw : waR Y bn) (hr : rfR v) : wayR n P Y v bn := by
  obtain ⟨⟨w0, w1, w2, w3, w4, w5, w6⟩, w7⟩ := hw
  obtain ⟨⟨r0, r1, r2, r3⟩, r4⟩ := hr
  refine ⟨fun p hp => by rw [w4, r3], ⟨w0, fun h => ?_, fun _ => w1, fun h => ?_, fun _ => w2, fun h => ?_, fun _ => w3, fun h => ?_, fun _ => w5⟩, ?_, fun u hu => by rw [w7 u hu, r4 u hu]⟩
  · rw [r0] at h; exact absurd h (by decide)
  · rw [r0] at h; exact absurd h (by decide)
  · rw [r0] at h; exact absurd h (by decide)
  · rw [r0] at h; exact absurd h (by decide)
  · obtain ⟨x, hx1, hx2, hx⟩ := (PR_sF hP).2.2.2.1
    refine ⟨nI x, nI_ne0 (by omega) (by omega), ?_, ?_⟩
    · unfold f_X12_handsOf; rw [r2, if_pos (by decide), r0, if_neg (by decide), hx]
    · unfold f_X0_laying
      rw [w6, if_pos (by decide), (PR_sE hP).2.2.2.1, hx, lay_b hx1 hx2, (PR_sE hP).2.2.1]
