/-! The laws: what class and reference work out of the same knots. -/
/-- how many operands a knot takes -/
def kn (k : Int32) : Nat := if k = 46 then 1 else if k = 2 then 0 else if k < 47 then 2 else 0
/-- how deep the row is behind n knots from i on -/
def dep (K : Nat → Int32) : Nat → Nat → Nat → Option Nat
  | 0, _, d => some d
  | n + 1, i, d => if kn (K i) ≤ d then dep K n (i + 1) (d - kn (K i) + 1) else none
theorem kn_le (k : Int32) : kn k ≤ 2 := by
  unfold kn
  split
  · omega
  · split
    · omega
    · split <;> omega
theorem dep_le (K : Nat → Int32) : ∀ n i d e, dep K n i d = some e → d ≤ e + n := by
  intro n
  induction n with
  | zero => intro i d e h; unfold dep at h; cases h; omega
  | succ n ih =>
    intro i d e h
    unfold dep at h
    have := kn_le (K i)
    by_cases hc : kn (K i) ≤ d
    · rw [if_pos hc] at h
      have := ih _ _ _ h
      omega
    · rw [if_neg hc] at h; cases h
/-- signs of two operands: the class's, the reference's -/
def kb (k w : Int32) : Prop := (k = 7 ∧ w = 43) ∨ (k = 8 ∧ w = 45) ∨ (k = 9 ∧ w = 42) ∨ (k = 10 ∧ w = 47) ∨ (k = 11 ∧ w = 60) ∨ (k = 12 ∧ w = 256) ∨ (k = 13 ∧ w = 61) ∨ (k = 14 ∧ w = 257) ∨ (k = 15 ∧ w = 258) ∨ (k = 16 ∧ w = 62) ∨ (k = 44 ∧ w = 262) ∨ (k = 45 ∧ w = 261)
/-- one knot of the class's and of the reference's -/
def kc (k n s w : Int32) : Prop := (k = 2 ∧ s = 0 ∧ w = n) ∨ (∃ j : Nat, j < 7 ∧ k = nI (47 + j) ∧ s = 1 ∧ w = nI j) ∨ (s = 2 ∧ k = 46 ∧ w = 260) ∨ (s = 2 ∧ kb k w)
def bdd (x : Int64) : Prop := ¬ (1000000000000 : Int64) < x ∧ ¬ x < -1000000000000
theorem bdd_i (x : Int32) : bdd x.toInt64 := by
  have h := Int32.toInt_lt x
  have h' := Int32.le_toInt x
  have e : x.toInt64.toInt = x.toInt := Int32.toInt_toInt64 x
  constructor
  · rw [Int64.lt_iff_toInt_lt, e, show (1000000000000 : Int64).toInt = 1000000000000 from by decide]; omega
  · rw [Int64.lt_iff_toInt_lt, e, show (-1000000000000 : Int64).toInt = -1000000000000 from by decide]; omega
theorem bdd_min : ¬ bdd (-9223372036854775808) := by unfold bdd; decide
theorem bdd_0 : bdd 0 := by unfold bdd; decide
theorem bdd_1 : bdd 1 := by unfold bdd; decide
theorem jabs_0 (x : Int64) : jabsL x = if 0 ≤ x then x else -x := by
  unfold jabsL
  by_cases h : 0 < x
  · rw [if_pos h, if_pos (Int64.le_of_lt h)]
  · rw [if_neg h]
    by_cases h' : 0 ≤ x
    · rw [if_pos h']
      have : x = 0 := Int64.le_antisymm (Int64.not_lt.mp h) h'
      subst this; decide
    · rw [if_neg h']
theorem jabs_z (x : Int64) : jabsL x = 0 ↔ x = 0 := by
  unfold jabsL
  by_cases h : 0 < x
  · rw [if_pos h]
  · rw [if_neg h]
    constructor
    · intro e
      have : -(-x) = -0 := by rw [e]
      rw [Int64.neg_neg] at this
      rw [this]; decide
    · intro e; subst e; decide
def wkF (v v' : VV) : Prop := v'.2.1 = v.2.1 ∧ (∀ k, k ≠ 31 → v'.1 k = v.1 k) ∧ v'.2.2 29 = v.2.2 29
theorem b407 (v : VV) (e : Nat) (x : Int64) (he : e + 1 ≤ 64) (h31 : v.1 31 = nI (e + 1)) :
    ∃ z v', f_X12_works_b407 v x = some (z, v') ∧ ((bdd x ∧ z = 1) ∨ (¬ bdd x ∧ z = 0)) ∧ v' = sj v 30 e x := by
  have e1 : v.1 31 - 1 = nI e := by rw [h31, nI_pred]
  unfold f_X12_works_b407
  rw [e1, pu_gin (by omega) (by omega), nI_clamp (by omega)]
  by_cases h1 : (1000000000000 : Int64) < x
  · rw [if_pos h1]; exact ⟨_, _, rfl, Or.inr ⟨fun hb => hb.1 h1, rfl⟩, rfl⟩
  · rw [if_neg h1]
    by_cases h2 : x < -1000000000000
    · rw [if_pos h2]; exact ⟨_, _, rfl, Or.inr ⟨fun hb => hb.2 h2, rfl⟩, rfl⟩
    · rw [if_neg h2]; exact ⟨_, _, rfl, Or.inl ⟨⟨h1, h2⟩, rfl⟩, rfl⟩
theorem join_works (v : VV) (e : Nat) (k w : Int32) (he : e + 2 ≤ 64) (h31 : v.1 31 = nI (e + 2)) (hk : kb k w) :
    ∃ x z v', f_X3_join k (v.2.2 30 e) (v.2.2 30 (e + 1)) = some x ∧ f_X12_works v w = some (z, v') ∧ wkF v v' ∧
      ((bdd x ∧ z = 1 ∧ v'.2.2 30 e = x ∧ v'.1 31 = nI (e + 1) ∧ ∀ j, j < e → v'.2.2 30 j = v.2.2 30 j) ∨ (¬ bdd x ∧ z = 0)) := by
  have e1 : v.1 31 - 1 = nI (e + 1) := by rw [h31, nI_pred]
  have e2 : v.1 31 - 2 = nI e := by
    have : (2 : Int32) = nI 2 := rfl
    rw [h31, this, pk_sub (by omega)]; rfl
  have hb : ∀ x : Int64, ∃ z v', f_X12_works_b407 (si v 31 (nI (e + 1))) x = some (z, v') ∧ wkF v v' ∧ ((bdd x ∧ z = 1 ∧ v'.2.2 30 e = x ∧ v'.1 31 = nI (e + 1) ∧ ∀ j, j < e → v'.2.2 30 j = v.2.2 30 j) ∨ (¬ bdd x ∧ z = 0)) := by
    intro x
    obtain ⟨z, v', h, hz, hv⟩ := b407 (si v 31 (nI (e + 1))) e x (by omega) rfl
    refine ⟨z, v', h, ?_, ?_⟩
    · subst hv
      exact ⟨rfl, fun k hk => by show (if k = 31 then _ else _) = _; rw [if_neg hk], rfl⟩
    · rcases hz with ⟨h1, h2⟩ | ⟨h1, h2⟩
      · refine Or.inl ⟨h1, h2, ?_, ?_, ?_⟩
        · subst hv; show vp_updL _ e x e = x; exact pk_uLs
        · subst hv; rfl
        · intro j hj; subst hv; show vp_updL _ e x j = _; rw [pk_uLn (by omega)]; rfl
      · exact Or.inr ⟨h1, h2⟩
  have hF : wkF v (si v 31 (nI (e + 1))) := ⟨rfl, fun k hk => by show (if k = 31 then _ else _) = _; rw [if_neg hk], rfl⟩
  have g1 : ∀ {α : Type} (o : Option α), gin (nI (e + 1)) 64 o = o := fun o => pu_gin (by omega) (by omega) o
  have g2 : ∀ {α : Type} (o : Option α), gin (nI e) 64 o = o := fun o => pu_gin (by omega) (by omega) o
  have c1 : (nI (e + 1)).toNatClampNeg = e + 1 := nI_clamp (by omega)
  have c2 : (nI e).toNatClampNeg = e := nI_clamp (by omega)
  unfold f_X3_join f_X12_works
  simp only [e1, e2, g1, g2, c1, c2]
  have fin : ∀ (x : Int64) (W : Option (Int32 × VV)), (∃ z v', W = some (z, v') ∧ wkF v v' ∧ ((bdd x ∧ z = 1 ∧ v'.2.2 30 e = x ∧ v'.1 31 = nI (e + 1) ∧ ∀ j, j < e → v'.2.2 30 j = v.2.2 30 j) ∨ (¬ bdd x ∧ z = 0))) → ∃ x' z v', some x = some x' ∧ W = some (z, v') ∧ wkF v v' ∧ ((bdd x' ∧ z = 1 ∧ v'.2.2 30 e = x' ∧ v'.1 31 = nI (e + 1) ∧ ∀ j, j < e → v'.2.2 30 j = v.2.2 30 j) ∨ (¬ bdd x' ∧ z = 0)) := fun x W h => by
    obtain ⟨z, v', h⟩ := h
    exact ⟨x, z, v', rfl, h⟩
  generalize v.2.2 30 e = A at *
  generalize v.2.2 30 (e + 1) = B at *
  unfold kb at hk
  rcases hk with ⟨rfl, rfl⟩ | ⟨rfl, rfl⟩ | ⟨rfl, rfl⟩ | ⟨rfl, rfl⟩ | ⟨rfl, rfl⟩ | ⟨rfl, rfl⟩ | ⟨rfl, rfl⟩ | ⟨rfl, rfl⟩ | ⟨rfl, rfl⟩ | ⟨rfl, rfl⟩ | ⟨rfl, rfl⟩ | ⟨rfl, rfl⟩
  · simp (decide := true) only [↓reduceIte]; exact fin _ _ (hb _)
  · simp (decide := true) only [↓reduceIte]; exact fin _ _ (hb _)
  · simp (decide := true) only [↓reduceIte]
    unfold f_X3_join_b192 f_X3_join_b206 f_X3_join_b233 f_X12_works_b212
    have ha := jabs_0 A
    have hB := jabs_0 B
    have key : ∀ C D : Int64, C = jabsL A → D = jabsL B → ∃ x z v', (if C = 0 then some (A * B) else gnzL C (if D ≤ 1000000000000 / C then some (A * B) else some (-9223372036854775808))) = some x ∧ (if A = 0 then f_X12_works_b407 (si v 31 (nI (e + 1))) (A * B) else gnzL (jabsL A) (if jabsL B ≤ 1000000000000 / jabsL A then f_X12_works_b407 (si v 31 (nI (e + 1))) (A * B) else some (0, si v 31 (nI (e + 1))))) = some (z, v') ∧ wkF v v' ∧ ((bdd x ∧ z = 1 ∧ v'.2.2 30 e = x ∧ v'.1 31 = nI (e + 1) ∧ ∀ j, j < e → v'.2.2 30 j = v.2.2 30 j) ∨ (¬ bdd x ∧ z = 0)) := by
      intro C D hC hD
      subst hC hD
      by_cases hA0 : A = 0
      · rw [if_pos ((jabs_z A).mpr hA0), if_pos hA0]; exact fin _ _ (hb _)
      · have hj : ¬ jabsL A = 0 := fun h => hA0 ((jabs_z A).mp h)
        rw [if_neg hj, if_neg hA0, pu_gnzL hj, pu_gnzL hj]
        by_cases hl : jabsL B ≤ 1000000000000 / jabsL A
        · rw [if_pos hl, if_pos hl]; exact fin _ _ (hb _)
        · rw [if_neg hl, if_neg hl]; exact fin _ _ ⟨_, _, rfl, hF, Or.inr ⟨bdd_min, rfl⟩⟩
    by_cases p : 0 ≤ A
    · rw [if_pos p]
      by_cases q : 0 ≤ B
      · rw [if_pos q]; exact key _ _ (by rw [ha, if_pos p]) (by rw [hB, if_pos q])
      · rw [if_neg q]; exact key _ _ (by rw [ha, if_pos p]) (by rw [hB, if_neg q])
    · rw [if_neg p]
      by_cases q : 0 ≤ B
      · rw [if_pos q]; exact key _ _ (by rw [ha, if_neg p]) (by rw [hB, if_pos q])
      · rw [if_neg q]; exact key _ _ (by rw [ha, if_neg p]) (by rw [hB, if_neg q])
  · simp (decide := true) only [↓reduceIte]
    by_cases h : B = 0
    · rw [if_pos h, if_pos h]; exact fin _ _ ⟨_, _, rfl, hF, Or.inr ⟨bdd_min, rfl⟩⟩
    · rw [if_neg h, if_neg h, pu_gnzL h, pu_gnzL h]; exact fin _ _ (hb _)
  · simp (decide := true) only [↓reduceIte, f_X12_works_b250, f_X12_works_b402, f_X12_works_b397, f_X12_works_b376, f_X12_works_b375, f_X12_works_b350, f_X12_works_b330, f_X12_works_b310, f_X12_works_b290, f_X12_works_b270, f_X3_join_b355, f_X12_is, pu_bnd]
    by_cases h : B ≤ A
    · rw [if_pos h, if_pos h]; exact fin _ _ (hb _)
    · rw [if_neg h, if_neg h]; exact fin _ _ (hb _)
  · simp (decide := true) only [↓reduceIte, f_X12_works_b250, f_X12_works_b402, f_X12_works_b397, f_X12_works_b376, f_X12_works_b375, f_X12_works_b350, f_X12_works_b330, f_X12_works_b310, f_X12_works_b290, f_X12_works_b270, f_X3_join_b355, f_X12_is, pu_bnd]
    by_cases h : B < A
    · rw [if_pos h, if_pos h]; exact fin _ _ (hb _)
    · rw [if_neg h, if_neg h]; exact fin _ _ (hb _)
  · simp (decide := true) only [↓reduceIte, f_X12_works_b250, f_X12_works_b402, f_X12_works_b397, f_X12_works_b376, f_X12_works_b375, f_X12_works_b350, f_X12_works_b330, f_X12_works_b310, f_X12_works_b290, f_X12_works_b270, f_X3_join_b355, f_X12_is, pu_bnd]
    by_cases h : A = B
    · rw [if_pos h, if_pos h]; exact fin _ _ (hb _)
    · rw [if_neg h, if_neg h]; exact fin _ _ (hb _)
  · simp (decide := true) only [↓reduceIte, f_X12_works_b250, f_X12_works_b402, f_X12_works_b397, f_X12_works_b376, f_X12_works_b375, f_X12_works_b350, f_X12_works_b330, f_X12_works_b310, f_X12_works_b290, f_X12_works_b270, f_X3_join_b355, f_X12_is, pu_bnd]
    by_cases h : A = B
    · rw [if_pos h, if_pos h]; exact fin _ _ (hb _)
    · rw [if_neg h, if_neg h]; exact fin _ _ (hb _)
  · simp (decide := true) only [↓reduceIte, f_X12_works_b250, f_X12_works_b402, f_X12_works_b397, f_X12_works_b376, f_X12_works_b375, f_X12_works_b350, f_X12_works_b330, f_X12_works_b310, f_X12_works_b290, f_X12_works_b270, f_X3_join_b355, f_X12_is, pu_bnd]
    by_cases h : A < B
    · rw [if_pos h, if_pos h]; exact fin _ _ (hb _)
    · rw [if_neg h, if_neg h]; exact fin _ _ (hb _)
  · simp (decide := true) only [↓reduceIte, f_X12_works_b250, f_X12_works_b402, f_X12_works_b397, f_X12_works_b376, f_X12_works_b375, f_X12_works_b350, f_X12_works_b330, f_X12_works_b310, f_X12_works_b290, f_X12_works_b270, f_X3_join_b355, f_X12_is, pu_bnd]
    by_cases h : A ≤ B
    · rw [if_pos h, if_pos h]; exact fin _ _ (hb _)
    · rw [if_neg h, if_neg h]; exact fin _ _ (hb _)
  · simp (decide := true) only [↓reduceIte, f_X12_works_b250, f_X12_works_b402, f_X12_works_b397, f_X12_works_b376, f_X12_works_b375, f_X12_works_b350, f_X12_works_b330, f_X12_works_b310, f_X12_works_b290, f_X12_works_b270, f_X3_join_b355, f_X12_is, pu_bnd]
    by_cases h : A = 0
    · rw [if_pos h, if_pos h]
      by_cases h' : B = 0
      · rw [if_pos h', if_pos h']; exact fin _ _ (hb _)
      · rw [if_neg h', if_neg h']; exact fin _ _ (hb _)
    · rw [if_neg h, if_neg h]; exact fin _ _ (hb _)
  · simp (decide := true) only [↓reduceIte, f_X12_works_b250, f_X12_works_b402, f_X12_works_b397, f_X12_works_b376, f_X12_works_b375, f_X12_works_b350, f_X12_works_b330, f_X12_works_b310, f_X12_works_b290, f_X12_works_b270, f_X3_join_b355, f_X12_is, pu_bnd]
    by_cases h : A = 0
    · rw [if_pos h, if_pos h]; exact fin _ _ (hb _)
    · rw [if_neg h, if_neg h]
      by_cases h' : B = 0
      · rw [if_pos h', if_pos h']; exact fin _ _ (hb _)
      · rw [if_neg h', if_neg h']; exact fin _ _ (hb _)
