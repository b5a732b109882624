theorem sm_ext {f : Nat → Int32} {n : Nat} : ∀ k, n ≤ k → (∀ i, n ≤ i → i < k → f i = 0) → sm_ f k = sm_ f n := by
  intro k
  induction k with
  | zero => intro h _; have : n = 0 := by omega
            subst this; rfl
  | succ k ih =>
    intro h hz
    by_cases e : n = k + 1
    · subst e; rfl
    · show sm_ f k + f k = _
      rw [ih (by omega) (fun i h1 h2 => hz i h1 (by omega)), hz k (by omega) (by omega), Int32.add_zero]
theorem sm_sub {f g h : Nat → Int32} : ∀ n, (∀ i, i < n → f i = g i + h i) → sm_ f n - sm_ g n = sm_ h n := by
  intro n
  induction n with
  | zero => intro _; show (0 : Int32) - 0 = 0; decide
  | succ n ih =>
    intro hh
    show sm_ f n + f n - (sm_ g n + g n) = sm_ h n + h n
    rw [← ih (fun i hi => hh i (by omega)), hh n (by omega)]
    grind
theorem pers_A (N : Nat) (hN : 66 < N) {n m : Nat} {P L v : VV} (h : PR n m P L v) : f_X6_persons N P = some (sm_ (fun q => v.2.1 5 q) n) := by
  have hn := PR_n h
  unfold f_X6_persons
  refine itrF n (fun i => (sm_ (fun q => v.2.1 5 q) i, nI i)) _ ?_ ?_ N 0 (by omega) (by omega)
  · intro i hi
    show f_X6_persons_s4 N P _ (nI i) = _
    unfold f_X6_persons_s4
    rw [PR_P0 h, if_neg (nI_ge hi (by omega)), pu_gin (show i < 8 by omega) (show 8 < 2 ^ 31 by omega), nI_clamp (show i < 2 ^ 31 by omega), nI_1, (PR_tR h hi).2.1]; rfl
  · show f_X6_persons_s4 N P _ (nI n) = _
    unfold f_X6_persons_s4
    rw [PR_P0 h, if_pos (nI_le (Nat.le_refl n) (by omega)), pu_inrO]
theorem st_count (N : Nat) (hN : 66 < N) : ST_count N INV := by
  intro cv T B v a1 hI
  obtain ⟨n, m, h⟩ := hI
  have h00 := h
  obtain ⟨hP0, hS, hT, hIm, hWa, hWb, hRf, hH, hU, hRd, hG, hE⟩ := h00
  have hP : PR n m (cv 6) (cv 7) (si v 0 0) := PR_KV h.1 (LF.refl _) (KV_0 v)
  have hn := PR_n hP
  have hc : carR True 0 (cv 8) (si v 0 0) := h.2.1.1
  have fin : INV cv T B (si v 0 0) := ⟨n, m, inv_kv h (LF.refl _) (KV_0 v)⟩
  obtain ⟨⟨d1, d2, d3, d4, d5⟩, _⟩ := h.2.1.1
  unfold f_X11_count f_X12_count
  by_cases c0 : a1 = 0
  · rw [if_pos c0, if_pos c0]; exact ⟨_, _, rfl, by rw [PR_P0 hP0, PR_v0 hP0], fin⟩
  rw [if_neg c0, if_neg c0]
  by_cases c1 : a1 = 1
  · rw [if_pos c1, if_pos c1]; exact ⟨_, _, rfl, by rw [PR_P3 hP0, PR_v2 hP0], fin⟩
  rw [if_neg c1, if_neg c1]
  by_cases c2 : a1 = 2
  · rw [if_pos c2, if_pos c2]; exact ⟨_, _, rfl, by rw [(PR_sE hP0).1], fin⟩
  rw [if_neg c2, if_neg c2]
  by_cases c3 : a1 = 3
  · rw [if_pos c3, if_pos c3, pers_A N hN hP, pu_bnd]
    refine ⟨_, _, rfl, ?_, fin⟩
    refine itrF n (fun i => (sm_ (fun q => v.2.1 5 q) i, nI i, si v 0 0)) _ ?_ ?_ N 0 (by omega) (by omega)
    · intro i hi
      show f_X12_count_s107 N (si v 0 0) _ (nI i) = _
      unfold f_X12_count_s107
      rw [PR_v0 hP, if_neg (nI_ge hi (by omega)), pu_gin (show i < 16 by omega) (show 16 < 2 ^ 31 by omega), nI_clamp (show i < 2 ^ 31 by omega), nI_1]; rfl
    · show f_X12_count_s107 N (si v 0 0) _ (nI n) = _
      unfold f_X12_count_s107
      rw [PR_v0 hP, if_pos (nI_le (Nat.le_refl n) (by omega)), pu_inrO]; rfl
  rw [if_neg c3, if_neg c3]
  by_cases c4 : a1 = 4
  · rw [if_pos c4, if_pos c4]; exact ⟨_, _, rfl, by rw [(PR_sE hP0).2.2.2.2.1], fin⟩
  rw [if_neg c4, if_neg c4]
  by_cases c5 : a1 = 5
  · rw [if_pos c5, if_pos c5]; exact ⟨_, _, rfl, by rw [PR_kn hP0], fin⟩
  rw [if_neg c5, if_neg c5]
  by_cases c6 : a1 = 6
  · rw [if_pos c6, if_pos c6]; exact ⟨_, _, rfl, by rw [d1], fin⟩
  rw [if_neg c6, if_neg c6]
  by_cases c7 : a1 = 7
  · rw [if_pos c7, if_pos c7]; exact ⟨_, _, rfl, by rw [d3], fin⟩
  rw [if_neg c7, if_neg c7]
  by_cases c8 : a1 = 8
  · rw [if_pos c8, if_pos c8]
    have hcr : ∀ p, p < n → (cv 8).2.1 6 p = v.2.1 39 p := fun p hp => (ca8 hc trivial (show p < 8 by omega)).2.2.1
    have hx : f_X8_crossInAll N (cv 8) = some (sm_ (fun q => (cv 8).2.1 6 q) n) := by
      rw [← sm_ext 8 hn (fun i h1 h2 => h.2.1.2.2.2.2.1 i h1 h2)]
      unfold f_X8_crossInAll
      refine itrF 8 (fun i => (sm_ (fun q => (cv 8).2.1 6 q) i, nI i)) _ ?_ ?_ N 0 (by omega) (by omega)
      · intro i hi
        show f_X8_crossInAll_s4 N (cv 8) _ (nI i) = _
        unfold f_X8_crossInAll_s4
        rw [if_neg (show ¬ (8 : Int32) ≤ nI (i) from nI_ge (a := i) (b := 8) (by omega) (by omega)), pu_gin (show i < 8 by omega) (show 8 < 2 ^ 31 by omega), nI_clamp (show i < 2 ^ 31 by omega), nI_1]; rfl
      · rfl
    rw [hx, pu_bnd]
    refine ⟨_, _, rfl, ?_, fin⟩
    rw [sm_congr n (f := fun q => (cv 8).2.1 6 q) (g := fun q => v.2.1 39 q) hcr]
    refine itrF n (fun i => (sm_ (fun q => v.2.1 39 q) i, nI i, si v 0 0)) _ ?_ ?_ N 0 (by omega) (by omega)
    · intro i hi
      show f_X12_count_s166 N (si v 0 0) _ (nI i) = _
      unfold f_X12_count_s166
      rw [PR_v0 hP, if_neg (nI_ge hi (by omega)), pu_gin (show i < 184 by omega) (show 184 < 2 ^ 31 by omega), nI_clamp (show i < 2 ^ 31 by omega), nI_1]; rfl
    · show f_X12_count_s166 N (si v 0 0) _ (nI n) = _
      unfold f_X12_count_s166
      rw [PR_v0 hP, if_pos (nI_le (Nat.le_refl n) (by omega)), pu_inrO]
  rw [if_neg c8, if_neg c8]
  by_cases c9 : a1 = 9
  · rw [if_pos c9, if_pos c9]; exact ⟨_, _, rfl, by rw [d4], fin⟩
  rw [if_neg c9, if_neg c9]
  by_cases c10 : a1 = 10
  · rw [if_pos c10, if_pos c10]; exact ⟨_, _, rfl, by rw [d5], fin⟩
  rw [if_neg c10, if_neg c10]
  by_cases c11 : a1 = 11
  · rw [if_pos c11, if_pos c11, pers_A N hN hP, pers_S N hN hP, pu_bnd, pu_bnd]
    refine ⟨_, _, rfl, ?_, fin⟩
    rw [sm_sub (h := fun q => if v.2.1 37 q = -1 then 0 else v.2.1 5 q) n (fun i hi => by
      simp only [tk0 hc (show i < 8 by omega)]
      show v.2.1 5 i = (if v.2.1 37 i = -1 then v.2.1 5 i else 0) + (if v.2.1 37 i = -1 then 0 else v.2.1 5 i)
      by_cases e : v.2.1 37 i = -1
      · rw [if_pos e, if_pos e, Int32.add_zero]
      · rw [if_neg e, if_neg e, Int32.zero_add])]
    refine itrF n (fun i => (sm_ (fun q => if v.2.1 37 q = -1 then 0 else v.2.1 5 q) i, nI i, si v 0 0)) _ ?_ ?_ N 0 (by omega) (by omega)
    · intro i hi
      show f_X12_count_s209 N (si v 0 0) _ (nI i) = _
      unfold f_X12_count_s209 f_X12_count_b240
      rw [PR_v0 hP, if_neg (nI_ge hi (by omega)), pu_gin (show i < 184 by omega) (show 184 < 2 ^ 31 by omega), nI_clamp (show i < 2 ^ 31 by omega), pu_gin (show i < 16 by omega) (show 16 < 2 ^ 31 by omega), nI_1]
      show (if v.2.1 37 i = -1 then _ else _) = _
      by_cases e : v.2.1 37 i = -1
      · rw [if_pos e]; simp only [sm_, if_pos e]
      · rw [if_neg e]; simp only [sm_, if_neg e]; rfl
    · show f_X12_count_s209 N (si v 0 0) _ (nI n) = _
      unfold f_X12_count_s209
      rw [PR_v0 hP, if_pos (nI_le (Nat.le_refl n) (by omega)), pu_inrO]
  rw [if_neg c11, if_neg c11]
  obtain ⟨k, hk, u1, u2, u3, u4, u5⟩ := hU
  by_cases c12 : a1 = 12
  · rw [if_pos c12, if_pos c12]; exact ⟨_, _, rfl, by rw [u1, u2], fin⟩
  rw [if_neg c12, if_neg c12]
  by_cases c13 : a1 = 13
  · rw [if_pos c13, if_pos c13]
    unfold f_X5_knownCount f_X12_knownMany
    rw [u3, show (si v 0 0).1 65 = v.1 65 from rfl, show (si v 0 0).1 64 = v.1 64 from rfl, u1, u2]
    rcases u4 with e | ⟨j, hj, e⟩
    · rw [if_pos e, if_pos e]; exact ⟨_, _, rfl, rfl, fin⟩
    · have hne : ¬ v.1 65 = -1 := by
        rw [e]; intro e'
        have : (-1 : Int32) < 0 := by decide
        rw [← e'] at this
        exact nI_pos (by omega) this
      rw [if_neg hne, if_neg hne, e]
      have : jmin (nI j) (nI k) = nI j := by unfold jmin; rw [if_neg (nI_nlt hj (by omega))]
      rw [this]
      exact ⟨_, _, rfl, rfl, fin⟩
  rw [if_neg c13, if_neg c13]
  obtain ⟨hh, g1, g2, g3, g4⟩ := hH
  by_cases c14 : a1 = 14
  · rw [if_pos c14, if_pos c14]; exact ⟨_, _, rfl, by rw [g2, g3], fin⟩
  rw [if_neg c14, if_neg c14]
  exact ⟨_, _, rfl, rfl, fin⟩
theorem nI_m1 {n : Nat} (h : n < 2 ^ 31) : ¬ nI n = -1 := fun e => nI_pos h (by rw [e]; decide)
/-- what two parties at a table do: both sides alike -/
theorem restE {n m p q : Nat} {P L v : VV} (h : PR n m P L v) (hp : p < n) (hq : q < n) (i : Nat) (hi : i < 4) : ∃ z : Int32, f_X11_isRest (v.2.1 8 p) (v.2.1 8 q) (nI i >>> ((1 : Int32) &&& 31)) (nI i &&& 1) = some z ∧ f_X12_isRest v (nI i / 2) (nI i - nI i / 2 * 2) (nI p) (nI q) = some z := by
  have hn := PR_n h
  have e1 : nI i >>> ((1 : Int32) &&& 31) = nI i / 2 := by
    have : i = 0 ∨ i = 1 ∨ i = 2 ∨ i = 3 := by omega
    rcases this with rfl | rfl | rfl | rfl <;> decide
  have e2 : nI i &&& 1 = nI i - nI i / 2 * 2 := by
    have : i = 0 ∨ i = 1 ∨ i = 2 ∨ i = 3 := by omega
    rcases this with rfl | rfl | rfl | rfl <;> decide
  rw [e1, e2]
  generalize nI i / 2 = a
  generalize nI i - a * 2 = b
  unfold f_X11_isRest f_X12_isRest
  rw [pu_gin (show p < 16 by omega) (show 16 < 2 ^ 31 by omega), pu_gin (show q < 16 by omega) (show 16 < 2 ^ 31 by omega), nI_clamp (show p < 2 ^ 31 by omega), nI_clamp (show q < 2 ^ 31 by omega)]
  have hg : ∀ x y c d, ∃ g, f_X11_gain x y c d = some g ∧ f_X12_has v c d x y = some g := by
    intro x y c d
    unfold f_X11_gain f_X12_has
    by_cases k1 : c = 0
    · simp only [if_pos k1]; exact ⟨_, rfl, rfl⟩
    · simp only [if_neg k1]
      by_cases k2 : d = 0
      · simp only [if_pos k2]; exact ⟨_, rfl, rfl⟩
      · simp only [if_neg k2]; exact ⟨_, rfl, rfl⟩
  obtain ⟨g1, a1, b1⟩ := hg (v.2.1 8 p) (v.2.1 8 q) a b
  obtain ⟨g2, a2, b2⟩ := hg (v.2.1 8 p) (v.2.1 8 q) (1 - a) b
  obtain ⟨g3, a3, b3⟩ := hg (v.2.1 8 q) (v.2.1 8 p) b a
  obtain ⟨g4, a4, b4⟩ := hg (v.2.1 8 q) (v.2.1 8 p) (1 - b) a
  simp only [a1, a2, a3, a4, b1, b2, b3, b4, pu_bnd]
  by_cases k1 : g1 < g2
  · simp only [if_pos k1]; exact ⟨_, rfl, rfl⟩
  · simp only [if_neg k1]
    by_cases k2 : g3 < g4
    · simp only [if_pos k2]; exact ⟨_, rfl, rfl⟩
    · simp only [if_neg k2]; exact ⟨_, rfl, rfl⟩
theorem twoR {n m : Nat} {P L v X : VV} (h : PR n m P L v) (x y : Int32) : (∃ p q, p < n ∧ q < n ∧ x = nI p ∧ y = nI q ∧ f_X11_areTwo X P x y = some 1 ∧ f_X12_areTwo v x y = some 1) ∨ (f_X11_areTwo X P x y = some 0 ∧ f_X12_areTwo v x y = some 0) := by
  unfold f_X11_areTwo f_X12_areTwo
  rcases hasP h x with ⟨p, hp, rfl, e1, e2⟩ | ⟨e1, e2⟩
  · rcases hasP h y with ⟨q, hq, rfl, e3, e4⟩ | ⟨e3, e4⟩
    · by_cases e : nI p = nI q
      · right; simp only [e1, e2, e3, e4, pu_bnd, n10, ↓reduceIte, if_pos e]; exact ⟨trivial, trivial⟩
      · left; exact ⟨p, q, hp, hq, rfl, rfl, by simp only [e1, e2, e3, e4, pu_bnd, n10, ↓reduceIte, if_neg e], by simp only [e1, e2, e3, e4, pu_bnd, n10, ↓reduceIte, if_neg e]⟩
    · right; simp only [e1, e2, e3, e4, pu_bnd, n10, ↓reduceIte]; exact ⟨trivial, trivial⟩
  · right; simp only [e1, e2, pu_bnd, ↓reduceIte]; exact ⟨trivial, trivial⟩
theorem st_rests (N : Nat) (hN : 66 < N) : ST_rests N INV := by
  intro cv T B v a1 a2 hI
  obtain ⟨n, m, h⟩ := hI
  have hP : PR n m (cv 6) (cv 7) (si v 0 0) := PR_KV h.1 (LF.refl _) (KV_0 v)
  have fin : INV cv T B (si v 0 0) := ⟨n, m, inv_kv h (LF.refl _) (KV_0 v)⟩
  unfold f_X11_rests f_X12_rests f_X12_restOf
  rcases twoR (X := cv 0) hP a1 a2 with ⟨p, q, hp, hq, rfl, rfl, e1, e2⟩ | ⟨e1, e2⟩
  · simp only [e1, e2, pu_bnd, n10, ↓reduceIte]
    obtain ⟨r, r', h1, h2, h3⟩ := itr2 (A := fun s : Int32 × Int32 => f_X11_rests_s16 N (cv 0) (cv 6) (nI p) (nI q) s.1 s.2) (B := fun s : Int32 × Int32 => f_X12_restOf_s6 N (si v 0 0) (nI p) (nI q) (-1) s.1 s.2) (fun k s s' => ∃ i c, k = 4 - i ∧ i ≤ 4 ∧ c ≤ i ∧ s = (nI c, nI i) ∧ s' = (nI c, nI i)) (fun r r' => r = r') (by
      intro k s s' hR
      obtain ⟨i, c, hk, hi, hc, rfl, rfl⟩ := hR
      simp only
      unfold f_X11_rests_s16 f_X12_restOf_s6 f_X11_rests_b57 f_X12_restOf_b54
      rcases Nat.lt_or_ge i 4 with hlt | hge
      · left
        obtain ⟨z, z1, z2⟩ := restE hP hp hq i hlt
        simp only [if_neg (show ¬ (4 : Int32) ≤ nI (i) from nI_ge (a := i) (b := 4) (by omega) (by omega)), tra5 hP hp, tra5 hP hq, pu_bnd, z1, z2, if_neg (nI_m1 (show c < 2 ^ 31 by omega))]
        by_cases e : z = 0
        · simp only [if_pos e]; exact ⟨4 - (i + 1), _, _, by omega, rfl, rfl, i + 1, c, rfl, by omega, by omega, by rw [nI_1], by rw [nI_1]⟩
        · simp only [if_neg e]; exact ⟨4 - (i + 1), _, _, by omega, rfl, rfl, i + 1, c + 1, rfl, by omega, by omega, by rw [nI_1, nI_1], by rw [nI_1, nI_1]⟩
      · right
        have : i = 4 := by omega
        subst this
        simp only [if_pos (show (4 : Int32) ≤ nI 4 from by decide), if_pos, pu_inrO]
        exact ⟨_, _, rfl, rfl, rfl⟩) N 4 (0, 0) (0, 0) (by omega) ⟨0, 0, rfl, by omega, by omega, rfl, rfl⟩
    subst h3
    rw [h1, h2, pu_bnd]
    exact ⟨_, _, rfl, rfl, fin⟩
  · simp only [e1, e2, pu_bnd, ↓reduceIte]; exact ⟨_, _, rfl, rfl, fin⟩
theorem st_rest (N : Nat) (hN : 66 < N) : ST_rest N INV := by
  intro cv T B v a1 a2 a3 hI
  obtain ⟨n, m, h⟩ := hI
  have hP : PR n m (cv 6) (cv 7) (si v 0 0) := PR_KV h.1 (LF.refl _) (KV_0 v)
  have fin : INV cv T B (si v 0 0) := ⟨n, m, inv_kv h (LF.refl _) (KV_0 v)⟩
  unfold f_X11_rest f_X12_rest f_X12_restOf
  rcases twoR (X := cv 0) hP a1 a2 with ⟨p, q, hp, hq, rfl, rfl, e1, e2⟩ | ⟨e1, e2⟩
  · simp only [e1, e2, pu_bnd, n10, ↓reduceIte]
    by_cases c0 : a3 < 0
    · simp only [if_neg (Int32.not_le.mpr c0), if_pos c0]; exact ⟨_, _, rfl, rfl, fin⟩
    simp only [if_pos (Int32.not_lt.mp c0), if_neg c0]
    obtain ⟨K, hK, rfl⟩ := nI_of c0
    obtain ⟨r, r', h1, h2, h3⟩ := itr2 (A := fun s : Int32 × Int32 => f_X11_rest_s21 N (cv 0) (cv 6) (nI p) (nI q) s.1 s.2) (B := fun s : Int32 × Int32 => f_X12_restOf_s6 N (si v 0 0) (nI p) (nI q) (nI K) s.1 s.2) (fun k s s' => ∃ i c, k = 4 - i ∧ i ≤ 4 ∧ c ≤ i ∧ c ≤ K ∧ s = (nI (K - c), nI i) ∧ s' = (nI c, nI i)) (fun r r' => r = r') (by
      intro k s s' hR
      obtain ⟨i, c, hk, hi, hc, hcK, rfl, rfl⟩ := hR
      simp only
      unfold f_X11_rest_s21 f_X12_restOf_s6 f_X11_rest_b80 f_X12_restOf_b54
      rcases Nat.lt_or_ge i 4 with hlt | hge
      · obtain ⟨z, z1, z2⟩ := restE hP hp hq i hlt
        have e1 : nI i >>> ((1 : Int32) &&& 31) = nI i / 2 := by
          have : i = 0 ∨ i = 1 ∨ i = 2 ∨ i = 3 := by omega
          rcases this with rfl | rfl | rfl | rfl <;> decide
        have e2 : nI i &&& 1 = nI i - nI i / 2 * 2 := by
          have : i = 0 ∨ i = 1 ∨ i = 2 ∨ i = 3 := by omega
          rcases this with rfl | rfl | rfl | rfl <;> decide
        simp only [if_neg (show ¬ (4 : Int32) ≤ nI (i) from nI_ge (a := i) (b := 4) (by omega) (by omega)), tra5 hP hp, tra5 hP hq, pu_bnd, z1, z2]
        by_cases e : z = 0
        · left; simp only [if_pos e]; exact ⟨4 - (i + 1), _, _, by omega, rfl, rfl, i + 1, c, rfl, by omega, by omega, hcK, by rw [nI_1], by rw [nI_1]⟩
        · simp only [if_neg e]
          by_cases ec : c = K
          · right
            subst ec
            simp only [Nat.sub_self, if_pos (show nI 0 = 0 from rfl), if_pos (show nI c = nI c from rfl), pu_inrO, e1, e2]
            exact ⟨_, _, rfl, rfl, rfl⟩
          · left
            obtain ⟨d, hd⟩ : ∃ d, K - c = d + 1 := ⟨K - c - 1, by omega⟩
            have n1 : ¬ nI (d + 1) = 0 := nI_ne0 (by omega) (by omega)
            have n2 : ¬ nI c = nI K := fun e' => ec ((nI_eq (by omega) hK).mp e')
            simp only [hd, if_neg n1, if_neg n2]
            exact ⟨4 - (i + 1), _, _, by omega, rfl, rfl, i + 1, c + 1, rfl, by omega, by omega, by omega, by rw [nI_1, pk_m1, show K - (c + 1) = d by omega], by rw [nI_1, nI_1]⟩
      · right
        have : i = 4 := by omega
        subst this
        simp only [if_pos (show (4 : Int32) ≤ nI 4 from by decide), if_neg (nI_m1 hK), pu_inrO]
        exact ⟨_, _, rfl, rfl, rfl⟩) N 4 (nI K, 0) (0, 0) (by omega) ⟨0, 0, rfl, by omega, by omega, by omega, rfl, rfl⟩
    subst h3
    rw [h1, h2, pu_bnd]
    exact ⟨_, _, rfl, rfl, fin⟩
  · simp only [e1, e2, pu_bnd, ↓reduceIte]; exact ⟨_, _, rfl, rfl, fin⟩
