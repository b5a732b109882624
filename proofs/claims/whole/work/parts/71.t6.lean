/-! text: negation, parts, the whole E -/
variable {N n cnt : Nat} {b : Nat → Nat} {K : VV} {E : Nat → Nat}
theorem isSg {v : VV} (h : v.1 23 = 0) (a : Int32) : f_X12_isSign v a = some (if v.1 21 = 3 ∧ v.1 22 = a then 1 else 0) := by
  unfold f_X12_isSign
  rw [if_pos h]
  by_cases c1 : v.1 21 = 3
  · rw [if_pos c1]
    by_cases c2 : v.1 22 = a
    · rw [if_pos c2, if_pos ⟨c1, c2⟩]
    · rw [if_neg c2, if_neg (fun h => c2 h.2)]
  · rw [if_neg c1, if_neg (fun h => c1 h.1)]
theorem isSgf {v : VV} (h : ¬ v.1 23 = 0) (a : Int32) : f_X12_isSign v a = some 0 := by unfold f_X12_isSign; rw [if_neg h]
theorem isWd {v : VV} (h : v.1 23 = 0) (a : Int32) : f_X12_isWord v a = some (if v.1 21 = 0 ∧ v.1 22 = a then 1 else 0) := by
  unfold f_X12_isWord
  rw [if_pos h]
  by_cases c1 : v.1 21 = 0
  · rw [if_pos c1]
    by_cases c2 : v.1 22 = a
    · rw [if_pos c2, if_pos ⟨c1, c2⟩]
    · rw [if_neg c2, if_neg (fun h => c2 h.2)]
  · rw [if_neg c1, if_neg (fun h => c1 h.1)]
theorem isWdf {v : VV} (h : ¬ v.1 23 = 0) (a : Int32) : f_X12_isWord v a = some 0 := by unfold f_X12_isWord; rw [if_neg h]
theorem bs_prod (N : Nat) (ex : VV → Option VV) : BS N 5 (f_X12_primary N ex) (fun v => f_X12_product_s4 N ex v) := by
  refine ⟨fun v hv => ?_, fun v k vl hv ht => ?_⟩
  · show f_X12_product_s4 N ex v = _
    unfold f_X12_product_s4
    rw [isSgf hv, pu_bnd, if_pos rfl, isSgf hv, pu_bnd, if_pos rfl, pu_inrO]
  · have yes : v.1 21 = 3 → (v.1 22 = 42 ∨ v.1 22 = 47) → f_X12_product_s4 N ex v = bnd (bnd (f_X12_knot v) (fun a => bnd (f_X12_goOn N a) (fun c => bnd (f_X12_primary N ex c) (fun e => f_X12_puts e 2 (v.1 22))))) (fun d => some (.inl d)) := by
      intro h3 hw
      unfold f_X12_product_s4 f_X12_product_b22
      simp only [isSg hv, pu_bnd, bnd_as]
      rcases hw with e | e
      · rw [show (if v.1 21 = 3 ∧ v.1 22 = 42 then (1 : Int32) else 0) = 1 from if_pos ⟨h3, e⟩, if_neg (by decide)]
      · rw [show (if v.1 21 = 3 ∧ v.1 22 = 42 then (1 : Int32) else 0) = 0 from if_neg (fun h => absurd (e.symm.trans h.2) (by decide)), if_pos rfl, show (if v.1 21 = 3 ∧ v.1 22 = 47 then (1 : Int32) else 0) = 1 from if_pos ⟨h3, e⟩, if_neg (by decide)]
    have no : ¬ (v.1 21 = 3 ∧ v.1 22 = 42) → ¬ (v.1 21 = 3 ∧ v.1 22 = 47) → f_X12_product_s4 N ex v = some (.inr v) := by
      intro h1 h2
      unfold f_X12_product_s4
      rw [isSg hv, pu_bnd, if_neg h1, if_pos rfl, isSg hv, pu_bnd, if_neg h2, if_pos rfl, pu_inrO]
    rcases tok_view ht with ⟨a1, a2, _⟩ | ⟨a1, a2, a3, _⟩ | ⟨a1, a2, a3, _⟩ | ⟨a1, a2, a3, a4, _⟩ | ⟨a1, a2, a3, _⟩ | ⟨a1, a2, a3, a4⟩
    · exact Or.inr ⟨_, a1, by decide, no (fun h => a2 ⟨h.1, Or.inl h.2⟩) (fun h => a2 ⟨h.1, Or.inr (Or.inl h.2)⟩)⟩
    · exact Or.inr ⟨_, a1, by decide, no (fun h => absurd (a2.symm.trans h.1) (by decide)) (fun h => absurd (a2.symm.trans h.1) (by decide))⟩
    · exact Or.inr ⟨_, a1, by decide, no (fun h => absurd (a2.symm.trans h.1) (by decide)) (fun h => absurd (a2.symm.trans h.1) (by decide))⟩
    · exact Or.inr ⟨_, a1, by decide, no (fun h => a4 (Or.inl h.2)) (fun h => a4 (Or.inr (Or.inl h.2)))⟩
    · refine Or.inr ⟨_, a1, by decide, no (fun h => ?_) (fun h => ?_)⟩
      · rcases a3 with e | e <;> exact absurd (e.symm.trans h.2) (by decide)
      · rcases a3 with e | e <;> exact absurd (e.symm.trans h.2) (by decide)
    · exact Or.inl ⟨a1, v.1 22, a4, yes a2 a3⟩
theorem bs_sum (N : Nat) (ex : VV → Option VV) : BS N 4 (f_X12_product N ex) (fun v => f_X12_sum_s4 N ex v) := by
  refine ⟨fun v hv => ?_, fun v k vl hv ht => ?_⟩
  · show f_X12_sum_s4 N ex v = _
    unfold f_X12_sum_s4
    rw [isSgf hv, pu_bnd, if_pos rfl, isSgf hv, pu_bnd, if_pos rfl, pu_inrO]
  · have yes : v.1 21 = 3 → (v.1 22 = 43 ∨ v.1 22 = 45) → f_X12_sum_s4 N ex v = bnd (bnd (f_X12_knot v) (fun a => bnd (f_X12_goOn N a) (fun c => bnd (f_X12_product N ex c) (fun e => f_X12_puts e 2 (v.1 22))))) (fun d => some (.inl d)) := by
      intro h3 hw
      unfold f_X12_sum_s4 f_X12_sum_b22
      simp only [isSg hv, pu_bnd, bnd_as]
      rcases hw with e | e
      · rw [show (if v.1 21 = 3 ∧ v.1 22 = 43 then (1 : Int32) else 0) = 1 from if_pos ⟨h3, e⟩, if_neg (by decide)]
      · rw [show (if v.1 21 = 3 ∧ v.1 22 = 43 then (1 : Int32) else 0) = 0 from if_neg (fun h => absurd (e.symm.trans h.2) (by decide)), if_pos rfl, show (if v.1 21 = 3 ∧ v.1 22 = 45 then (1 : Int32) else 0) = 1 from if_pos ⟨h3, e⟩, if_neg (by decide)]
    have no : ¬ (v.1 21 = 3 ∧ v.1 22 = 43) → ¬ (v.1 21 = 3 ∧ v.1 22 = 45) → f_X12_sum_s4 N ex v = some (.inr v) := by
      intro h1 h2
      unfold f_X12_sum_s4
      rw [isSg hv, pu_bnd, if_neg h1, if_pos rfl, isSg hv, pu_bnd, if_neg h2, if_pos rfl, pu_inrO]
    rcases tok_view ht with ⟨a1, a2, _⟩ | ⟨a1, a2, a3, _⟩ | ⟨a1, a2, a3, _⟩ | ⟨a1, a2, a3, a4, _⟩ | ⟨a1, a2, a3, a4⟩ | ⟨a1, a2, a3, _⟩
    · exact Or.inr ⟨_, a1, by decide, no (fun h => a2 ⟨h.1, Or.inr (Or.inr (Or.inl h.2))⟩) (fun h => a2 ⟨h.1, Or.inr (Or.inr (Or.inr (Or.inl h.2)))⟩)⟩
    · exact Or.inr ⟨_, a1, by decide, no (fun h => absurd (a2.symm.trans h.1) (by decide)) (fun h => absurd (a2.symm.trans h.1) (by decide))⟩
    · exact Or.inr ⟨_, a1, by decide, no (fun h => absurd (a2.symm.trans h.1) (by decide)) (fun h => absurd (a2.symm.trans h.1) (by decide))⟩
    · exact Or.inr ⟨_, a1, by decide, no (fun h => a4 (Or.inr (Or.inr (Or.inl h.2)))) (fun h => a4 (Or.inr (Or.inr (Or.inr h.2))))⟩
    · exact Or.inl ⟨a1, v.1 22, a4, yes a2 a3⟩
    · refine Or.inr ⟨_, a1, by decide, no (fun h => ?_) (fun h => ?_)⟩
      · rcases a3 with e | e <;> exact absurd (e.symm.trans h.2) (by decide)
      · rcases a3 with e | e <;> exact absurd (e.symm.trans h.2) (by decide)
theorem bs_conj (N : Nat) (ex : VV → Option VV) : BS N 2 (f_X12_negation N ex 66) (fun v => f_X12_conjunction_s4 N ex v) := by
  refine ⟨fun v hv => ?_, fun v k vl hv ht => ?_⟩
  · show f_X12_conjunction_s4 N ex v = _
    unfold f_X12_conjunction_s4
    rw [isWdf hv, pu_bnd, if_pos rfl, pu_inrO]
  · have no : ¬ (v.1 21 = 0 ∧ v.1 22 = 13) → f_X12_conjunction_s4 N ex v = some (.inr v) := by
      intro h1
      unfold f_X12_conjunction_s4
      rw [isWd hv, pu_bnd, if_neg h1, if_pos rfl, pu_inrO]
    rcases tok_view ht with ⟨a1, _, a2⟩ | ⟨a1, a2, a3, _⟩ | ⟨a1, a2, a3, a4⟩ | ⟨a1, a2, _⟩ | ⟨a1, a2, _⟩ | ⟨a1, a2, _⟩
    · exact Or.inr ⟨_, a1, by decide, no (fun h => a2 ⟨h.1, Or.inr h.2⟩)⟩
    · exact Or.inr ⟨_, a1, by decide, no (fun h => absurd (a3.symm.trans h.2) (by decide))⟩
    · refine Or.inl ⟨a1, 261, ?_, ?_⟩
      · rw [a4]; exact Or.inr (Or.inr (Or.inr (Or.inr (Or.inr (Or.inr (Or.inr (Or.inr (Or.inr (Or.inr (Or.inr ⟨rfl, rfl⟩))))))))))
      · show f_X12_conjunction_s4 N ex v = _
        unfold f_X12_conjunction_s4
        simp only [isWd hv, pu_bnd, bnd_as]
        rw [show (if v.1 21 = 0 ∧ v.1 22 = 13 then (1 : Int32) else 0) = 1 from if_pos ⟨a2, a3⟩, if_neg (by decide)]
    · exact Or.inr ⟨_, a1, by decide, no (fun h => absurd (a2.symm.trans h.1) (by decide))⟩
    · exact Or.inr ⟨_, a1, by decide, no (fun h => absurd (a2.symm.trans h.1) (by decide))⟩
    · exact Or.inr ⟨_, a1, by decide, no (fun h => absurd (a2.symm.trans h.1) (by decide))⟩
theorem bs_expr (N : Nat) (ex : VV → Option VV) : BS N 1 (f_X12_conjunction N ex) (fun v => f_X12_expression_s4 N ex v) := by
  refine ⟨fun v hv => ?_, fun v k vl hv ht => ?_⟩
  · show f_X12_expression_s4 N ex v = _
    unfold f_X12_expression_s4
    rw [isWdf hv, pu_bnd, if_pos rfl, pu_inrO]
  · have no : ¬ (v.1 21 = 0 ∧ v.1 22 = 12) → f_X12_expression_s4 N ex v = some (.inr v) := by
      intro h1
      unfold f_X12_expression_s4
      rw [isWd hv, pu_bnd, if_neg h1, if_pos rfl, pu_inrO]
    rcases tok_view ht with ⟨a1, _, a2⟩ | ⟨a1, a2, a3, a4⟩ | ⟨a1, a2, a3, _⟩ | ⟨a1, a2, _⟩ | ⟨a1, a2, _⟩ | ⟨a1, a2, _⟩
    · exact Or.inr ⟨_, a1, by decide, no (fun h => a2 ⟨h.1, Or.inl h.2⟩)⟩
    · refine Or.inl ⟨a1, 262, ?_, ?_⟩
      · rw [a4]; exact Or.inr (Or.inr (Or.inr (Or.inr (Or.inr (Or.inr (Or.inr (Or.inr (Or.inr (Or.inr (Or.inl ⟨rfl, rfl⟩))))))))))
      · show f_X12_expression_s4 N ex v = _
        unfold f_X12_expression_s4
        simp only [isWd hv, pu_bnd, bnd_as]
        rw [show (if v.1 21 = 0 ∧ v.1 22 = 12 then (1 : Int32) else 0) = 1 from if_pos ⟨a2, a3⟩, if_neg (by decide)]
    · exact Or.inr ⟨_, a1, by decide, no (fun h => absurd (a3.symm.trans h.2) (by decide))⟩
    · exact Or.inr ⟨_, a1, by decide, no (fun h => absurd (a2.symm.trans h.1) (by decide))⟩
    · exact Or.inr ⟨_, a1, by decide, no (fun h => absurd (a2.symm.trans h.1) (by decide))⟩
    · exact Or.inr ⟨_, a1, by decide, no (fun h => absurd (a2.symm.trans h.1) (by decide))⟩
/-! negation -/
def nputs : Nat → VV → Option VV
  | 0, v => some v
  | c + 1, v => bnd (f_X12_puts v 2 260) (nputs c)
theorem nputs_f {v : VV} (h : ¬ v.1 23 = 0) : ∀ c, nputs c v = some v := by
  intro c
  induction c with
  | zero => rfl
  | succ c ih => show bnd (f_X12_puts v 2 260) (nputs c) = _; rw [puts_f h, pu_bnd, ih]
theorem notsR {rc : VV → VV → VV → VV → Int32 → Int32 → Option (Int32 × VV × VV)} (P : VV) {op j q : Nat} : ∀ m i fu l R L v, GS n cnt b K E op j l q R L v → l + m ≤ q → i + m ≤ 64 → m < fu → ∃ L' v', itr (fun y : Int32 × VV × VV => f_X7_readRank_s144 N rc y.2.1 K P y.2.2 (nI (i + m)) y.1) fu (nI i, R, L) = some (1, R, L') ∧ nputs m v = some v' ∧ GS n cnt b K E op j (l + m) q R L' v' ∧ EF v v' ∧ SM l R L v R L' v' ∧ ∀ d, 1 ≤ d → dep (L'.2.1 0) m l d = some d := by
  intro m
  induction m with
  | zero =>
    intro i fu l R L v hg hl hi hf
    refine ⟨L, v, itr_e hf ?_, rfl, hg, EF.refl v, SM.refl l R L v, fun d hd => rfl⟩
    show f_X7_readRank_s144 N rc R K P L (nI i) (nI i) = _
    unfold f_X7_readRank_s144
    rw [if_pos (nI_le (Nat.le_refl i) (by omega)), pu_inrO]
  | succ m ih =>
    intro i fu l R L v hg hl hi hf
    obtain ⟨L1, v1, s1, s2, s3, s4, s5, s6, _⟩ := putsR hg (by omega) (k := 46) (vl := 0) (s := 2) (w := 260) (Or.inr (Or.inr (Or.inl ⟨rfl, rfl, rfl⟩)))
    obtain ⟨L2, v2, t1, t2, t3, t4, t5, t6⟩ := ih (i + 1) (fu - 1) (l + 1) R L1 v1 s3 (by omega) (by omega) (by omega)
    rw [show i + 1 + m = i + (m + 1) by omega] at t1
    refine ⟨L2, v2, ?_, ?_, by rw [show l + (m + 1) = l + 1 + m by omega]; exact t3, s4.trans t4, s5.trans t5 (by omega), fun d hd => ?_⟩
    · rw [itr_s (by omega) (t := (nI (i + 1), R, L1)) ?_]
      · exact t1
      · show f_X7_readRank_s144 N rc R K P L (nI (i + (m + 1))) (nI i) = _
        unfold f_X7_readRank_s144
        rw [if_neg (nI_ge (by omega) (by omega)), s1, pu_bnd, nI_1]
    · show bnd (f_X12_puts v 2 260) (nputs m) = _
      rw [s2, pu_bnd, t2]
    · show (if kn (L2.2.1 0 l) ≤ d then dep (L2.2.1 0) m (l + 1) (d - kn (L2.2.1 0 l) + 1) else none) = some d
      rw [(t5.2.2.2.1 l (by omega)).1, s6, show kn 46 = 1 from rfl, if_pos hd, show d - 1 + 1 = d by omega]
      exact t6 d hd
theorem not_w : ∀ j, j < 22 → (nI (32 + pm j) = 46 ∧ nI j = 14) ∨ (¬ nI (32 + pm j) = 46 ∧ ¬ nI j = 14) := by decide +kernel
theorem not_view {k vl s w : Int32} (h : tokR k vl s w) : (k = 46 ∧ s = 0 ∧ w = 14) ∨ (¬ k = 46 ∧ ¬ (s = 0 ∧ w = 14)) := by
  rcases h with ⟨rfl, rfl⟩ | ⟨rfl, rfl⟩ | ⟨rfl, rfl, _⟩ | ⟨rfl, rfl, _⟩ | ⟨rfl, h, h44, h45⟩ | ⟨rfl, j, hj, rfl, rfl⟩
  · exact Or.inr ⟨by decide, fun h => absurd h.1 (by decide)⟩
  · exact Or.inr ⟨by decide, fun h => absurd h.1 (by decide)⟩
  · exact Or.inr ⟨by decide, fun h => absurd h.1 (by decide)⟩
  · exact Or.inr ⟨by decide, fun h => absurd h.1 (by decide)⟩
  · refine Or.inr ⟨?_, fun h => absurd h.1 (by decide)⟩
    rcases h with ⟨rfl, _⟩ | ⟨rfl, _⟩ | ⟨rfl, _⟩ | h
    · decide
    · decide
    · decide
    · rcases h with ⟨rfl, rfl⟩ | ⟨rfl, rfl⟩ | ⟨rfl, rfl⟩ | ⟨rfl, rfl⟩ | ⟨rfl, rfl⟩ | ⟨rfl, rfl⟩ | ⟨rfl, rfl⟩ | ⟨rfl, rfl⟩ | ⟨rfl, rfl⟩ | ⟨rfl, rfl⟩ | ⟨rfl, rfl⟩ | ⟨rfl, rfl⟩ <;> decide
  · rcases not_w j hj with ⟨a, c⟩ | ⟨a, c⟩
    · exact Or.inl ⟨a, rfl, c⟩
    · exact Or.inr ⟨a, fun h => c h.2⟩
def cmpF (N : Nat) (ex rc : VV → Option VV) (v : VV) : Option VV := if v.1 23 = 0 then if v.1 21 = 3 then if v.1 22 = 60 then f_X12_negation_b87 N ex rc v else if v.1 22 = 62 then f_X12_negation_b87 N ex rc v else if v.1 22 = 61 then f_X12_negation_b87 N ex rc v else if (256 : Int32) ≤ v.1 22 then f_X12_negation_b87 N ex rc v else some v else some v else some v
theorem cmp_yes (N : Nat) (ex rc : VV → Option VV) {v : VV} (h : v.1 23 = 0) (h3 : v.1 21 = 3) (hw : v.1 22 = 60 ∨ v.1 22 = 62 ∨ v.1 22 = 61 ∨ 256 ≤ v.1 22) : cmpF N ex rc v = f_X12_negation_b87 N ex rc v := by
  unfold cmpF
  rw [if_pos h, if_pos h3]
  by_cases c1 : v.1 22 = 60
  · rw [if_pos c1]
  rw [if_neg c1]
  by_cases c2 : v.1 22 = 62
  · rw [if_pos c2]
  rw [if_neg c2]
  by_cases c3 : v.1 22 = 61
  · rw [if_pos c3]
  rw [if_neg c3]
  rcases hw with e | e | e | e
  · exact absurd e c1
  · exact absurd e c2
  · exact absurd e c3
  · rw [if_pos e]
theorem cmp_no (N : Nat) (ex rc : VV → Option VV) {v : VV} (hw : ¬ (v.1 21 = 3 ∧ (v.1 22 = 60 ∨ v.1 22 = 62 ∨ v.1 22 = 61 ∨ 256 ≤ v.1 22))) : cmpF N ex rc v = some v := by
  unfold cmpF
  by_cases h : v.1 23 = 0
  · rw [if_pos h]
    by_cases h3 : v.1 21 = 3
    · rw [if_pos h3, if_neg (fun e => hw ⟨h3, Or.inl e⟩), if_neg (fun e => hw ⟨h3, Or.inr (Or.inl e)⟩), if_neg (fun e => hw ⟨h3, Or.inr (Or.inr (Or.inl e))⟩), if_neg (fun e => hw ⟨h3, Or.inr (Or.inr (Or.inr e))⟩)]
    · rw [if_neg h3]
  · rw [if_neg h]
theorem cmp_f (N : Nat) (ex rc : VV → Option VV) {v : VV} (h : ¬ v.1 23 = 0) : cmpF N ex rc v = some v := by unfold cmpF; rw [if_neg h]
theorem cmp_view {k vl : Int32} {v : VV} (N : Nat) (ex rc : VV → Option VV) (hv : v.1 23 = 0) (ht : tokR k vl (v.1 21) (v.1 22)) : (f_X7_rankOf k = some 3 ∧ ∃ w, kb k w ∧ cmpF N ex rc v = bnd (f_X12_knot v) (fun a => bnd (f_X12_goOn N a) (fun c => bnd (f_X12_sum N ex c) (fun e => f_X12_puts e 2 w)))) ∨ (∃ r', f_X7_rankOf k = some r' ∧ ¬ r' = 3 ∧ cmpF N ex rc v = some v) := by
  rcases tok_view ht with ⟨a1, a2, _⟩ | ⟨a1, a2, a3, _⟩ | ⟨a1, a2, a3, _⟩ | ⟨a1, a2, a3, a4, a5⟩ | ⟨a1, a2, a3, _⟩ | ⟨a1, a2, a3, _⟩
  · refine Or.inr ⟨_, a1, by decide, cmp_no N ex rc (fun h => a2 ⟨h.1, Or.inr (Or.inr (Or.inr (Or.inr h.2)))⟩)⟩
  · exact Or.inr ⟨_, a1, by decide, cmp_no N ex rc (fun h => absurd (a2.symm.trans h.1) (by decide))⟩
  · exact Or.inr ⟨_, a1, by decide, cmp_no N ex rc (fun h => absurd (a2.symm.trans h.1) (by decide))⟩
  · refine Or.inl ⟨a1, v.1 22, a5, ?_⟩
    rw [cmp_yes N ex rc hv a2 a3]
    unfold f_X12_negation_b87
    congr 1
    funext a
    congr 1
    funext c
    congr 1
    funext e
    cases f_X12_puts e 2 (v.1 22) with
    | none => rfl
    | some y => rfl
  · refine Or.inr ⟨_, a1, by decide, cmp_no N ex rc (fun h => ?_)⟩
    rcases a3 with e | e
    · rw [e] at h; exact absurd h.2 (by decide)
    · rw [e] at h; exact absurd h.2 (by decide)
  · refine Or.inr ⟨_, a1, by decide, cmp_no N ex rc (fun h => ?_)⟩
    rcases a3 with e | e
    · rw [e] at h; exact absurd h.2 (by decide)
    · rw [e] at h; exact absurd h.2 (by decide)
theorem neg_s (N : Nat) (ex : VV → Option VV) (f : Nat) (v : VV) : f_X12_negation N ex (f + 1) v = bnd (f_X12_isWord v 14) (fun q1 => if q1 = 0 then bnd (f_X12_sum N ex v) (cmpF N ex (f_X12_negation N ex f)) else bnd (bnd (f_X12_knot v) (fun a => f_X12_goOn N a)) (fun q7 => bnd (f_X12_negation N ex f q7) (fun q9 => f_X12_puts q9 2 260))) := by
  show f_X12_negation_body N ex (f_X12_negation N ex f) v = _
  unfold f_X12_negation_body
  congr 1
  funext q1
  by_cases c : q1 = 0
  · rw [if_pos c, if_pos c]; rfl
  · rw [if_neg c, if_neg c, bnd_as]
    congr 1
    funext q5
    congr 1
    funext q7
    congr 1
    funext q9
    cases f_X12_puts q9 2 260 with
    | none => rfl
    | some y => rfl
theorem negR (h : TKS N n cnt b K E) (hN : 2000 < N) {op : Nat} {rc : VV → VV → VV → VV → Int32 → Int32 → Option (Int32 × VV × VV)} {ex : VV → Option VV} (P : VV) (hM : MT n cnt b K E op (fun R L => rc R K P L (nI 4) (nI op)) (f_X12_sum N ex)) : ∀ f c fu j l q R L v, f + c = 66 → 70 < fu + c → GS n cnt b K E op j l q R L v → l + c ≤ q → PO n cnt b K E op j l q c R L v (itr (fun y : Int32 × VV × VV => f_X7_readRank_s14 N rc y.2.1 K P y.2.2 3 (nI op) y.1) fu (nI c, R, L)) (bnd (f_X12_negation N ex f v) (nputs c)) := by
  intro f
  induction f with
  | zero => intro c fu j l q R L v hf _ hg hl; have := hg.1; omega
  | succ f ih =>
    intro c fu j l q R L v hf hfu hg hl
    obtain ⟨⟨g1, g2, g3⟩, g4, g5, ⟨g6, g7⟩, g8, g9, g10⟩ := id hg
    obtain ⟨kd, _, _⟩ := kindR h g5 g1
    have hs14 : ∀ o, (if K.2.1 0 j = 46 then bnd (f_X7_takeKnot R K P L) (fun t => if t.1 = 0 then inrO (some (0, t.2.1, t.2.2)) else some (.inl (nI (c + 1), t.2.1, t.2.2))) else inrO (f_X7_readRank_b49 N rc R K P L 3 (nI op) (nI c))) = some o → f_X7_readRank_s14 N rc R K P L 3 (nI op) (nI c) = some o := by
      intro o ho
      unfold f_X7_readRank_s14
      rw [if_neg (show ¬ (64 : Int32) < nI c from nI_nlt (a := 64) (by omega) (by omega)), if_pos rfl, kd, pu_bnd, nI_1]
      exact ho
    rw [neg_s, isWd g6, pu_bnd]
    rcases not_view g4.2.2.2 with ⟨k1, k2, k3⟩ | ⟨k1, k2⟩
    · -- one more not
      have hj : j < cnt := by
        rcases Nat.lt_or_ge j cnt with hh | hh
        · exact hh
        · have e : j = cnt := by omega
          rw [e, h.2.2.2.2.2] at k1
          exact absurd k1 (by decide)
      rw [show (if v.1 21 = 0 ∧ v.1 22 = 14 then (1 : Int32) else 0) = 1 from if_pos ⟨k2, k3⟩, if_neg (by decide)]
      rcases opR h P hg hj with ⟨v2, o1, o2, o3, o4, o5, o6⟩ | ⟨R', v', o2, o3, o4, o5, o6⟩
      · have st := hs14 (.inl (nI (c + 1), si R 2 (nI (j + 1)), si L 3 (nI (q + 1)))) (by rw [if_pos k1, o2, pu_bnd, if_neg (by show ¬ (1 : Int32) = 0; decide)])
        obtain ⟨z, R3, L3, v3, i1, i2, i3, i4⟩ := ih (c + 1) (fu - 1) (j + 1) l (q + 1) _ _ v2 (by omega) (by omega) o4 (by omega)
        refine ⟨z, R3, L3, v3, ?_, ?_, o5.trans i3, ?_⟩
        · rw [itr_s (by omega) st]; exact i1
        · rw [o3, pu_bnd, bnd_as]; exact i2
        · rcases i4 with i5 | ⟨i5, j', l', q', i6, i7, i8, i9, i10, i11⟩
          · exact Or.inl i5
          · exact Or.inr ⟨i5, j', l', q', i6, by omega, by omega, by omega, o6.trans i10 (Nat.le_refl l), i11⟩
      · have st := hs14 (.inr (0, R', L)) (by rw [if_pos k1, o2, pu_bnd, if_pos rfl, pu_inrO])
        have fn : ∀ m, f_X12_negation N ex (m + 1) v' = some v' := fun m => by
          rw [neg_s, isWdf o6, pu_bnd, if_pos rfl, hM.2 v' o6, pu_bnd, cmp_f N ex _ o6]
        obtain ⟨f', rfl⟩ : ∃ f', f = f' + 1 := ⟨f - 1, by omega⟩
        refine ⟨0, R', L, v', itr_e (by omega) st, ?_, o5, Or.inl ⟨rfl, o4⟩⟩
        rw [o3, pu_bnd, fn f', pu_bnd, puts_f o6, pu_bnd, nputs_f o6]
    · -- a comparison, or a sum alone
      rw [show (if v.1 21 = 0 ∧ v.1 22 = 14 then (1 : Int32) else 0) = 0 from if_neg k2, if_pos rfl]
      obtain ⟨z, R1, L1, v1, p1, p2, p3, p4⟩ := hM.1 j l q R L v hg
      have p1' : rc R K P L ((3 : Int32) + 1) (nI op) = some (z, R1, L1) := p1
      rw [p2, pu_bnd]
      rcases p4 with ⟨rfl, p5⟩ | ⟨rfl, j1, l1, q1, p5, p6, p7, p8, p9, p10⟩
      · have hf : ¬ v1.1 23 = 0 := by rw [p5.1]; exact p5.2.1
        refine ⟨0, R1, L1, v1, itr_e (by omega) (hs14 (.inr (0, R1, L1)) ?_), ?_, p3, Or.inl ⟨rfl, p5⟩⟩
        · rw [if_neg k1]
          unfold f_X7_readRank_b49
          rw [p1', pu_bnd, if_pos rfl, pu_inrO]
        · rw [cmp_f N ex _ hf, pu_bnd, nputs_f hf]
      · obtain ⟨⟨m1, m2, m3⟩, m4, m5, ⟨m6, m7⟩, m8, m9, m10⟩ := id p5
        obtain ⟨kd1, _, _⟩ := kindR h m5 m1
        have s14o : ∀ o, itr (fun y : Int32 × VV × VV => f_X7_readRank_s78 N rc y.2.1 K P y.2.2 3 (nI op) (nI c) 1 y.1) N (0, R1, L1) = some o → itr (fun y : Int32 × VV × VV => f_X7_readRank_s14 N rc y.2.1 K P y.2.2 3 (nI op) y.1) fu (nI c, R, L) = some o := by
          intro o ho
          refine itr_e (by omega) (hs14 (.inr o) ?_)
          rw [if_neg k1]
          unfold f_X7_readRank_b49 f_X7_readRank_b73
          rw [p1', pu_bnd, if_neg (by show ¬ (1 : Int32) = 0; decide), if_pos rfl]
          show inrO (itr (fun y : Int32 × VV × VV => f_X7_readRank_s78 N rc y.2.1 K P y.2.2 3 (nI op) (nI c) 1 y.1) N (0, R1, L1)) = _
          rw [ho, pu_inrO]
        have fin : ∀ j2 l2 q2 R2 L2 v2, GS n cnt b K E op j2 l2 q2 R2 L2 v2 → EF v v2 → j < j2 → q < q2 → l2 = l + (q2 - q) → SM l R L v R2 L2 v2 → (∀ d, dep (L2.2.1 0) (l2 - l) l d = some (d + 1)) → ∃ L3 v3, f_X7_readRank_b141 N rc R2 K P L2 (nI c) = some (1, R2, L3) ∧ nputs c v2 = some v3 ∧ EF v v3 ∧ ∃ j' l' q', GS n cnt b K E op j' l' q' R2 L3 v3 ∧ j < j' ∧ q < q' ∧ l' = l + (q' - q) + c ∧ SM l R L v R2 L3 v3 ∧ ∀ d, dep (L3.2.1 0) (l' - l) l d = some (d + 1) := by
          intro j2 l2 q2 R2 L2 v2 hg2 he2 hj2 hq2 hl2 hs2 hd2
          obtain ⟨L3, v3, t1, t2, t3, t4, t5, t6⟩ := notsR (N := N) (rc := rc) P c 0 N l2 R2 L2 v2 hg2 (by omega) (by omega) (by omega)
          refine ⟨L3, v3, ?_, t2, he2.trans t4, j2, l2 + c, q2, t3, hj2, hq2, by omega, hs2.trans t5 (by omega), fun d => ?_⟩
          · unfold f_X7_readRank_b141
            rw [Nat.zero_add] at t1
            exact t1
          · rw [show l2 + c - l = (l2 - l) + c by omega, dep_app, dep_c (Q := L2.2.1 0) (l2 - l) l d (fun x h1 h2 => (t5.2.2.2.1 x (by omega)).1), hd2 d]
            show dep (L3.2.1 0) c (l + (l2 - l)) (d + 1) = some (d + 1)
            rw [show l + (l2 - l) = l2 by omega]
            exact t6 (d + 1) (by omega)
        rcases cmp_view N ex (f_X12_negation N ex f) m6 m4.2.2.2 with ⟨u1, w, u2, u3⟩ | ⟨r', u1, u2, u3⟩
        · have hj1 : j1 < cnt := by
            rcases Nat.lt_or_ge j1 cnt with hh | hh
            · exact hh
            · have e : j1 = cnt := by omega
              rw [e, h.2.2.2.2.2] at u1
              exact absurd (show some (0 : Int32) = some 3 from u1) (by decide)
          obtain ⟨z, R3, L3, v3, i1, i2, i3, i4⟩ := iterR (G := fun R L => rc R K P L (nI 4) (nI op)) h P hM p5 hj1 u2
          have stp : f_X7_readRank_s78 N rc R1 K P L1 3 (nI op) (nI c) 1 0 = if z = 0 then some (.inr (0, R3, L3)) else some (.inl (0 + 1, R3, L3)) := by
            unfold f_X7_readRank_s78
            rw [if_neg (show ¬ (1 : Int32) ≤ 0 by decide), kd1, pu_bnd, u1, pu_bnd, if_pos rfl, pu_bnd]
            exact s78_of (G := fun R L => rc R K P L (nI 4) (nI op)) i1
          rw [u3, i2, pu_bnd]
          rcases i4 with ⟨rfl, i5⟩ | ⟨rfl, j3, l3, q3, i5, i6, i7, i8, i9, i10⟩
          · have hf : ¬ v3.1 23 = 0 := by rw [i5.1]; exact i5.2.1
            refine ⟨0, R3, L3, v3, s14o _ (itr_e (by omega) ?_), by rw [nputs_f hf], p3.trans i3, Or.inl ⟨rfl, i5⟩⟩
            rw [if_pos rfl] at stp
            exact stp
          · obtain ⟨L4, v4, q1', q2', q3', q4'⟩ := fin j3 l3 q3 R3 L3 v3 i5 (p3.trans i3) (by omega) (by omega) (by omega) (p9.trans i9 (by omega)) (fun d => by
              rw [show l3 - l = (l1 - l) + (l3 - l1) by omega, dep_app, dep_c (Q := L1.2.1 0) (l1 - l) l d (fun x h1 h2 => (i9.2.2.2.1 x (by omega)).1), p10 d]
              show dep (L3.2.1 0) (l3 - l1) (l + (l1 - l)) (d + 1) = some (d + 1)
              rw [show l + (l1 - l) = l1 by omega]
              exact i10 (d + 1) (by omega))
            rw [if_neg (by decide)] at stp
            refine ⟨1, R3, L4, v4, s14o _ ?_, q2', q3', Or.inr ⟨rfl, q4'⟩⟩
            rw [itr_s (by omega) stp]
            refine itr_e (by omega) ?_
            show f_X7_readRank_s78 N rc R3 K P L3 3 (nI op) (nI c) 1 (0 + 1) = _
            unfold f_X7_readRank_s78
            rw [if_pos (show (1 : Int32) ≤ 0 + 1 by decide), q1', pu_inrO]
        · obtain ⟨L4, v4, q1', q2', q3', q4'⟩ := fin j1 l1 q1 R1 L1 v1 p5 p3 p6 p7 p8 p9 p10
          rw [u3, pu_bnd]
          refine ⟨1, R1, L4, v4, s14o _ (itr_e (by omega) ?_), q2', q3', Or.inr ⟨rfl, q4'⟩⟩
          show f_X7_readRank_s78 N rc R1 K P L1 3 (nI op) (nI c) 1 0 = _
          unfold f_X7_readRank_s78
          rw [if_neg (show ¬ (1 : Int32) ≤ 0 by decide), kd1, pu_bnd, u1, pu_bnd, if_neg u2, q1', pu_inrO]
theorem rank3 (h : TKS N n cnt b K E) (hN : 2000 < N) {op : Nat} {rc : VV → VV → VV → VV → Int32 → Int32 → Option (Int32 × VV × VV)} {ex : VV → Option VV} (P : VV) (hM : MT n cnt b K E op (fun R L => rc R K P L (nI 4) (nI op)) (f_X12_sum N ex)) : MT n cnt b K E op (fun R L => f_X7_readRank_body N rc R K P L (nI 3) (nI op)) (f_X12_negation N ex 66) := by
  refine ⟨fun j l q R L v hg => ?_, fun v hv => by rw [neg_s, isWdf hv, pu_bnd, if_pos rfl, hM.2 v hv, pu_bnd, cmp_f N ex _ hv]⟩
  have := negR h hN P hM 66 0 N j l q R L v rfl (by omega) hg hg.1.2.1
  have e : bnd (f_X12_negation N ex 66 v) (nputs 0) = f_X12_negation N ex 66 v := by
    cases f_X12_negation N ex 66 v with
    | none => rfl
    | some y => rfl
  rw [e] at this
  obtain ⟨z, R', L', v', c1, c2⟩ := this
  refine ⟨z, R', L', v', ?_, c2⟩
  show f_X7_readRank_body N rc R K P L (nI 3) (nI op) = _
  unfold f_X7_readRank_body
  rw [if_pos (show nI 3 < 6 by decide)]
  exact c1
