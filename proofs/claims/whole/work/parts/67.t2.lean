/-! text: one token, on both sides; then all -/
def numR (x y : Nat) : Prop := x ≤ 1000000 ∧ y ≤ 999999 ∧ (x = y ∨ (99999 < x ∧ 99999 < y))
def sgR (k w : Int32) : Prop := (k = 4 ∧ w = 59) ∨ (k = 5 ∧ w = 40) ∨ (k = 6 ∧ w = 41) ∨ kb k w
def tokR (k vl s w : Int32) : Prop := (k = 0 ∧ s = 4) ∨ (k = 1 ∧ s = 5) ∨ (k = 2 ∧ s = 2 ∧ ∃ x y : Nat, vl = nI x ∧ w = nI y ∧ numR x y) ∨ (k = 3 ∧ s = 1 ∧ vl = w) ∨ (s = 3 ∧ sgR k w ∧ ¬ k = 44 ∧ ¬ k = 45) ∨ (s = 0 ∧ ∃ j : Nat, j < 22 ∧ k = nI (32 + pm j) ∧ w = nI j)
theorem numStep {x y d : Nat} (h : numR x y) (hd : d ≤ 9) : numR (if 10 * x + d < 1000000 then 10 * x + d else 1000000) (if y ≤ 99999 then 10 * y + d else y) := by
  unfold numR at *
  by_cases c1 : 10 * x + d < 1000000
  · rw [if_pos c1]
    by_cases c2 : y ≤ 99999
    · rw [if_pos c2]; omega
    · rw [if_neg c2]; omega
  · rw [if_neg c1]
    by_cases c2 : y ≤ 99999
    · rw [if_pos c2]; omega
    · rw [if_neg c2]; omega
/-- a number -/
theorem numT (N : Nat) (hN : 2000 < N) {n p e c : Nat} {b : Nat → Nat} {T : Nat → Int32} {K v : VV} (hb : HB n b) (hT : CT n b T) (hK : K.1 3 = nI c) (hc : c ≤ 700) (he : e ≤ n) (hpe : p ≤ e) (hl : ∀ i, p ≤ i → i < e → dgB (b i) = true) (hx : e < n → dgB (b e) = false) (hv : RT n b v) (h19 : v.1 19 = nI p) (h22 : v.1 22 = 0) :
    ∃ x y K' v', f_X9_takeNumber N K T (nI n) (nI p) = some (nI e, K') ∧ PUT K c 2 (nI p) (nI x) K' ∧ itr (fun q : VV => f_X12_token_s162 N q) N v = some v' ∧ numR x y ∧ v'.1 19 = nI e ∧ v'.1 22 = nI y ∧ (∀ k, k ≠ 19 → k ≠ 22 → v'.1 k = v.1 k) ∧ v'.2 = v.2 := by
  have hn := hb.1
  unfold f_X9_takeNumber
  obtain ⟨r, r', g1, g2, g3⟩ := itr2 (A := fun q : Int32 × Int32 × VV => f_X9_takeNumber_s6 N q.2.2 T (nI n) (nI p) q.1 q.2.1) (B := fun q : VV => f_X12_token_s162 N q) (fun k s s' => ∃ i x y, k = e - i ∧ p ≤ i ∧ i ≤ e ∧ s = (nI x, nI i, K) ∧ s'.1 19 = nI i ∧ s'.1 22 = nI y ∧ numR x y ∧ (∀ k, k ≠ 19 → k ≠ 22 → s'.1 k = v.1 k) ∧ s'.2 = v.2) (fun r r' => ∃ x y, r.1 = nI e ∧ PUT K c 2 (nI p) (nI x) r.2 ∧ numR x y ∧ r'.1 19 = nI e ∧ r'.1 22 = nI y ∧ (∀ k, k ≠ 19 → k ≠ 22 → r'.1 k = v.1 k) ∧ r'.2 = v.2) (by
    intro k s s' hR
    obtain ⟨i, x, y, hk, hi1, hi2, rfl, f1, f2, f3, f4, f5⟩ := hR
    simp only
    have hrt : RT n b s' := ⟨(f4 18 (by omega) (by omega)).trans hv.1, by rw [f5]; exact hv.2⟩
    have hh := hereR hb hrt f1 (by omega)
    unfold f_X9_takeNumber_s6 f_X12_token_s162 f_X9_takeNumber_b48
    obtain ⟨K', k1, k2⟩ := putR hc hK 2 (nI p) (nI x)
    rcases Nat.lt_or_ge i e with hlt | hge
    · left
      have hbi := hb.2 i (by omega)
      have hd := dg_iff.mp (hl i hi1 hlt)
      have st := numStep (d := b i - 48) f3 (by omega)
      obtain ⟨hx1, hy1, _⟩ := f3
      rw [if_neg (nI_ge (show i < n by omega) (by omega)), pu_gin (show i < 700 by omega) (show 700 < 2 ^ 31 by omega), nI_clamp (show i < 2 ^ 31 by omega), hT i (by omega), digC hbi, pu_bnd, if_pos (hl i hi1 hlt), if_neg (by decide), pu_gin (show i < 700 by omega) (show 700 < 2 ^ 31 by omega), nI_1, tb_lo (by omega), hh, pu_bnd, if_pos (show i < n by omega), digX hbi, pu_bnd, if_pos (hl i hi1 hlt), if_neg (by decide), f2]
      have e1 : jmin (nI x * 10 + nI (b i) - 48) 1000000 = nI (if 10 * x + (b i - 48) < 1000000 then 10 * x + (b i - 48) else 1000000) := by
        rw [show (10 : Int32) = nI 10 from rfl, pk_mul, nI_add, show (48 : Int32) = nI 48 from rfl, pk_sub (by omega), show x * 10 + b i - 48 = 10 * x + (b i - 48) by omega, show (1000000 : Int32) = nI 1000000 from rfl]
        unfold jmin
        by_cases c1 : 10 * x + (b i - 48) < 1000000
        · rw [if_neg (nI_nlt (by omega) (by omega)), if_pos c1]
        · rw [if_neg c1]
          by_cases c2 : 10 * x + (b i - 48) = 1000000
          · rw [c2, if_neg (nI_nlt (Nat.le_refl _) (by omega))]
          · rw [if_pos (nI_lt (by omega) (by omega))]
      have e2 : (if nI y ≤ 99999 then bnd (some (nI (b i))) (fun q16205 => f_X12_token_b204 N s' (10 * nI y + q16205 - 48)) else f_X12_token_b204 N s' (nI y)) = some (.inl (si (si s' 22 (nI (if y ≤ 99999 then 10 * y + (b i - 48) else y))) 19 (nI (i + 1)))) := by
        unfold f_X12_token_b204
        rw [pu_bnd, f1, nI_1]
        by_cases c1 : y ≤ 99999
        · rw [if_pos (show nI (y) ≤ (99999 : Int32) from nI_le (a := y) (b := 99999) (by omega) (by omega)), if_pos c1, show (10 : Int32) = nI 10 from rfl, pk_mul, nI_add, show (48 : Int32) = nI 48 from rfl, pk_sub (by omega), show 10 * y + b i - 48 = 10 * y + (b i - 48) by omega]
        · rw [if_neg (show ¬ nI (y) ≤ (99999 : Int32) from nI_ge (a := 99999) (b := y) (by omega) (by omega)), if_neg c1]
      rw [e1, e2]
      refine ⟨e - (i + 1), _, _, by omega, rfl, rfl, i + 1, _, _, rfl, by omega, hlt, rfl, rfl, rfl, st, fun k h1 h2 => ?_, f5⟩
      show (if k = 19 then _ else if k = 22 then _ else s'.1 k) = _
      rw [if_neg h1, if_neg h2]; exact f4 k h1 h2
    · right
      have : i = e := by omega
      subst this
      have stopX : f_X12_isDigit (if i < n then nI (b i) else -1) = some 0 := by
        by_cases c1 : i < n
        · rw [if_pos c1, digX (hb.2 i c1), hx c1]; rfl
        · rw [if_neg c1]; rfl
      rw [hh, pu_bnd, stopX, pu_bnd, if_pos rfl, pu_inrO, k1, pu_bnd]
      have fin : ∀ o : Option ((Int32 × Int32 × VV) ⊕ (Int32 × VV)), o = some (Sum.inr (nI i, K')) → ∃ r r', o = some (Sum.inr r) ∧ (some (Sum.inr s') : Option (VV ⊕ VV)) = some (.inr r') ∧ ∃ x y, r.1 = nI i ∧ PUT K c 2 (nI p) (nI x) r.2 ∧ numR x y ∧ r'.1 19 = nI i ∧ r'.1 22 = nI y ∧ (∀ k, k ≠ 19 → k ≠ 22 → r'.1 k = v.1 k) ∧ r'.2 = v.2 := fun o ho => ⟨_, _, ho, rfl, x, y, rfl, k2, f3, f1, f2, f4, f5⟩
      by_cases c1 : i < n
      · rw [if_neg (nI_ge c1 (by omega)), pu_gin (show i < 700 by omega) (show 700 < 2 ^ 31 by omega), nI_clamp (show i < 2 ^ 31 by omega), hT i c1, digC (hb.2 i c1), pu_bnd, hx c1, if_pos (show (if false = true then (1 : Int32) else 0) = 0 from rfl), pu_inrO]
        exact fin _ rfl
      · rw [if_pos (nI_le (by omega) (by omega)), pu_inrO]
        exact fin _ rfl) N (e - p) (0, nI p, K) v (by omega) ⟨p, 0, 0, rfl, Nat.le_refl p, hpe, rfl, h19, h22, ⟨by omega, by omega, Or.inl rfl⟩, fun _ _ _ => rfl, rfl⟩
  obtain ⟨r1, K'⟩ := r
  obtain ⟨x, y, q1, q2⟩ := g3
  simp only at q1 q2
  subst q1
  exact ⟨x, y, K', r', g1, q2.1, g2, q2.2⟩
theorem shl_or (x : Int32) {y : Nat} (hy : y < 32) : (x <<< ((5 : Int32) &&& 31)) + nI y = (x <<< ((5 : Int32) &&& 31)) ||| nI y := by
  have h : (x <<< ((5 : Int32) &&& 31)) &&& nI y = 0 := by
    apply b_ext
    intro i hi
    rw [b_and, b_0]
    have e5 : bt (x <<< ((5 : Int32) &&& 31)) i = (decide (5 ≤ i) && bt x (i - 5)) := b_shl 5 (by omega) x hi
    rw [e5]
    by_cases c : 5 ≤ i
    · have : bt (nI y) i = false := by
        show (BitVec.ofNat 32 y).getLsbD i = false
        rw [BitVec.getLsbD_ofNat]
        have : y.testBit i = false := Nat.testBit_lt_two_pow (Nat.lt_of_lt_of_le hy (by have := Nat.pow_le_pow_right (show 0 < 2 by omega) c; omega))
        rw [this, Bool.and_false]
      rw [this, Bool.and_false]
    · rw [decide_eq_false c]; rfl
  apply Int32.toBitVec_inj.mp
  rw [Int32.toBitVec_add, Int32.toBitVec_or]
  refine BitVec.add_eq_or_of_and_eq_zero _ _ ?_
  have := congrArg Int32.toBitVec h
  rw [Int32.toBitVec_and] at this
  exact this
/-- the letters of a name -/
theorem nameT (N : Nat) (hN : 2000 < N) {n p e : Nat} {b : Nat → Nat} {T : Nat → Int32} {v : VV} (hb : HB n b) (hT : CT n b T) (he : e ≤ n) (hl : ∀ i, p ≤ i → i < e → ltB (b i) = true) (hv : RT n b v) (h19 : v.1 19 = nI e) (h20 : v.1 20 = nI p) (hpe : p ≤ e) :
    ∃ x v', f_X9_packed N T (nI p) (nI e) = some x ∧ f_X12_name N v = some v' ∧ v'.1 22 = x ∧ (∀ k, k ≠ 22 → v'.1 k = v.1 k) ∧ v'.2 = v.2 := by
  have hn := hb.1
  unfold f_X9_packed f_X12_name
  obtain ⟨r, r', g1, g2, g3⟩ := itr2 (A := fun q : Int32 × Int32 => f_X9_packed_s5 N T (nI p) (nI e) q.1 q.2) (B := fun q : Int32 × VV => f_X12_name_s7 N q.2 q.1) (fun k s s' => ∃ i, k = 6 - i ∧ i ≤ 6 ∧ s.2 = nI i ∧ s'.1 = nI i ∧ s'.2.1 22 = s.1 ∧ (∀ k, k ≠ 22 → s'.2.1 k = v.1 k) ∧ s'.2.2 = v.2) (fun r r' => r'.1 22 = r ∧ (∀ k, k ≠ 22 → r'.1 k = v.1 k) ∧ r'.2 = v.2) (by
    intro k s s' hR
    obtain ⟨s1, s2⟩ := s
    obtain ⟨t1, w⟩ := s'
    obtain ⟨i, hk, hi, f1, f2, f3, f4, f5⟩ := hR
    simp only at f1 f2 f3 f4 f5
    subst f1 f2
    simp only
    unfold f_X9_packed_s5 f_X12_name_s7 f_X9_packed_b47 f_X12_name_b53
    rcases Nat.lt_or_ge i 6 with hlt | hge
    · left
      rw [if_neg (show ¬ (6 : Int32) ≤ nI (i) from nI_ge (a := i) (b := 6) (by omega) (by omega)), if_neg (show ¬ (6 : Int32) ≤ nI (i) from nI_ge (a := i) (b := 6) (by omega) (by omega)), f4 19 (by omega), f4 20 (by omega), h19, h20, nI_add, nI_1, f3]
      have fr : ∀ x k, k ≠ 22 → (si w 22 x).1 k = v.1 k := fun x k hk => by rw [pu_si1, if_neg hk]; exact f4 k hk
      by_cases c : p + i < e
      · have hbl := lt_iff_.mp (hl (p + i) (by omega) c)
        have hw : w.2.1 1 (p + i) = nI (b (p + i)) := by rw [f5]; exact hv.2 (p + i) (by omega)
        have ey : nI (b (p + i)) - 97 + 1 = nI (b (p + i) - 96) := by
          rw [show (97 : Int32) = nI 97 from rfl, pk_sub (by omega), nI_1, show b (p + i) - 97 + 1 = b (p + i) - 96 by omega]
        rw [if_neg (nI_ge c (by omega)), if_neg (show ¬ (700 : Int32) ≤ nI (p + i) from nI_ge (a := p + i) (b := 700) (by omega) (by omega)), if_neg (nI_ge c (by omega)), pu_gin (show p + i < 700 by omega) (show 700 < 2 ^ 31 by omega), pu_gin (show p + i < 700 by omega) (show 700 < 2 ^ 31 by omega), nI_clamp (show p + i < 2 ^ 31 by omega), hT (p + i) (by omega), tb_lo (by omega), hw, ey, shl_or s1 (by omega)]
        exact ⟨6 - (i + 1), _, _, by omega, rfl, rfl, i + 1, rfl, by omega, rfl, rfl, rfl, fr _, f5⟩
      · rw [if_pos (nI_le (by omega) (by omega)), if_pos (nI_le (by omega) (by omega)), Int32.or_zero]
        exact ⟨6 - (i + 1), _, _, by omega, rfl, rfl, i + 1, rfl, by omega, rfl, rfl, rfl, fr _, f5⟩
    · right
      have : i = 6 := by omega
      subst this
      rw [if_pos (show (6 : Int32) ≤ nI 6 from by decide), if_pos (show (6 : Int32) ≤ nI 6 from by decide), pu_inrO, pu_inrO]
      exact ⟨_, _, rfl, rfl, f3, f4, f5⟩) N 6 (0, 0) (0, si v 22 0) (by omega) ⟨0, rfl, by omega, rfl, rfl, rfl, fun k hk => by rw [pu_si1, if_neg hk], rfl⟩
  exact ⟨r, r', g1, g2, g3⟩
/-- a word, whichever -/
theorem wordT (N : Nat) (hN : 2000 < N) {n p e c : Nat} {b : Nat → Nat} {T : Nat → Int32} {K : VV} (hb : HB n b) (hT : CT n b T) (hK : K.1 3 = nI c) (hc : c ≤ 700) (he : e ≤ n) (hpe : p ≤ e) (hl : ∀ i, p ≤ i → i < e → ltB (b i) = true) (hx : e < n → ltB (b e) = false) :
    ∃ k vl K', f_X9_takeWord N K T (nI n) (nI p) = some (nI e, K') ∧ PUT K c k (nI p) vl K' ∧ ¬ k = 0 ∧ ∀ v, RT n b v → v.1 19 = nI p → v.1 20 = nI p → ∃ v', itr (fun q : VV => f_X12_token_s64 N q) N v = some v' ∧ tokR k vl (v'.1 21) (v'.1 22) ∧ v'.1 19 = nI e ∧ v'.1 20 = nI p ∧ TF v v' := by
  have hn := hb.1
  obtain ⟨r, r1, r2⟩ := wordC N hN hn hT he hpe hl
  -- the class
  have clp : ∀ o, f_X9_takeWord_b25 N K T (nI p) (nI e) = some o → f_X9_takeWord N K T (nI n) (nI p) = some o := by
    intro o ho
    unfold f_X9_takeWord
    have := itrF (A := fun q : Int32 × VV => f_X9_takeWord_s3 N q.2 T (nI n) (nI p) q.1) (e - p) (fun i => (nI (p + i), K)) o (by
      intro i hi
      show f_X9_takeWord_s3 N K T (nI n) (nI p) (nI (p + i)) = _
      unfold f_X9_takeWord_s3
      rw [if_neg (nI_ge (show p + i < n by omega) (by omega)), pu_gin (show p + i < 700 by omega) (show 700 < 2 ^ 31 by omega), nI_clamp (show p + i < 2 ^ 31 by omega), hT (p + i) (by omega), letC (hb.2 (p + i) (by omega)), pu_bnd, if_pos (hl (p + i) (by omega) (by omega)), if_neg (by decide), nI_1]; rfl) (by
      show f_X9_takeWord_s3 N K T (nI n) (nI p) (nI (p + (e - p))) = _
      rw [show p + (e - p) = e by omega]
      unfold f_X9_takeWord_s3
      by_cases c1 : e < n
      · rw [if_neg (nI_ge c1 (by omega)), pu_gin (show e < 700 by omega) (show 700 < 2 ^ 31 by omega), nI_clamp (show e < 2 ^ 31 by omega), hT e c1, letC (hb.2 e c1), pu_bnd, hx c1, if_pos (show (if false = true then (1 : Int32) else 0) = 0 from rfl), ho, pu_inrO]
      · rw [if_pos (nI_le (by omega) (by omega)), ho, pu_inrO]) N 0 (by omega) (by omega)
    exact this
  -- the reference comes to the word's end
  have rfp : ∀ v, RT n b v → v.1 19 = nI p → v.1 20 = nI p → ∃ w r', TF v w ∧ RT n b w ∧ w.1 19 = nI e ∧ w.1 20 = nI p ∧ f_X12_word N w = some r' ∧ ((∃ j, j < 22 ∧ r' = nI j ∧ r = nI (pm j)) ∨ (r = -1 ∧ r' = -1)) ∧ ∀ o, (if r' = -1 then (if nI e - nI p ≤ 6 then f_X12_token_b127 N (si w 22 r') 1 else f_X12_token_b127 N (si w 22 r') 5) else f_X12_token_b127 N (si w 22 r') 0) = some o → itr (fun q : VV => f_X12_token_s64 N q) N v = some o := by
    intro v hv h19 h20
    obtain ⟨Wf, hWf⟩ : ∃ Wf : Nat → VV, Wf = fun i => (fun q => if q = 19 then nI (p + i) else v.1 q, v.2) := ⟨_, rfl⟩
    have tfW : ∀ i, TF v (Wf i) := fun i => by rw [hWf]; exact ⟨fun k h1 _ _ _ => if_neg h1, rfl⟩
    have w19 : ∀ i, (Wf i).1 19 = nI (p + i) := fun i => by rw [hWf]; rfl
    have w20 : ∀ i, (Wf i).1 20 = nI p := fun i => by rw [hWf]; exact h20
    have s0 : Wf 0 = v := by
      rw [hWf]
      refine Prod.ext ?_ rfl
      funext q
      show (if q = 19 then nI (p + 0) else v.1 q) = v.1 q
      by_cases c1 : q = 19
      · rw [if_pos c1, c1, h19, Nat.add_zero]
      · rw [if_neg c1]
    have we : (Wf (e - p)).1 19 = nI e := by rw [w19, show p + (e - p) = e by omega]
    obtain ⟨r', q1, q2⟩ := wordX N hN hb (RT_TF hv (tfW (e - p))) we (w20 _) he hpe
    refine ⟨Wf (e - p), r', tfW _, RT_TF hv (tfW _), we, w20 _, q1, word2 r2 q2, fun o ho => ?_⟩
    have := itrF (A := fun q : VV => f_X12_token_s64 N q) (e - p) Wf o (by
      intro i hi
      unfold f_X12_token_s64
      rw [hereR hb (RT_TF hv (tfW i)) (w19 i) (by omega), pu_bnd, if_pos (by omega), letX (hb.2 (p + i) (by omega)), pu_bnd, if_pos (hl (p + i) (by omega) (by omega)), if_neg (by decide), w19, nI_1]
      congr 2
      rw [hWf]
      refine Prod.ext ?_ rfl
      funext q
      show (if q = 19 then nI (p + i + 1) else if q = 19 then nI (p + i) else v.1 q) = if q = 19 then nI (p + (i + 1)) else v.1 q
      by_cases c1 : q = 19
      · rw [if_pos c1, if_pos c1]; rfl
      · rw [if_neg c1, if_neg c1, if_neg c1]) (by
      unfold f_X12_token_s64
      have stopX : f_X12_isSmall (if e < n then nI (b e) else -1) = some 0 := by
        by_cases c1 : e < n
        · rw [if_pos c1, letX (hb.2 e c1), hx c1]; rfl
        · rw [if_neg c1]; rfl
      rw [hereR hb (RT_TF hv (tfW (e - p))) we he, pu_bnd, stopX, pu_bnd, if_pos rfl, q1, pu_bnd, we, w20, ho, pu_inrO]) N 0 (by omega) (by omega)
    rw [s0] at this
    exact this
  rcases r2 with ⟨j0, hj0, rfl, _⟩ | ⟨rfl, _⟩
  · -- one of the language
    obtain ⟨K', k1, k2⟩ := putR hc hK (32 + nI j0) (nI p) 0
    refine ⟨_, _, K', clp _ (by unfold f_X9_takeWord_b25; rw [r1, pu_bnd, if_neg (show ¬ nI j0 = -1 from fun h => nI_pos (show j0 < 2 ^ 31 by omega) (by rw [h]; decide)), k1, pu_bnd]), k2, ?_, fun v hv h19 h20 => ?_⟩
    · rw [show (32 : Int32) = nI 32 from rfl, nI_add]; exact nI_ne0 (by omega) (by omega)
    · obtain ⟨w, r', q1, q2, q3, q4, q5, q6, q7⟩ := rfp v hv h19 h20
      rcases q6 with ⟨j, hj, rfl, ej⟩ | ⟨h1, _⟩
      · have hn1 : ¬ nI j = -1 := fun h => nI_pos (show j < 2 ^ 31 by omega) (by rw [h]; decide)
        refine ⟨si (si w 22 (nI j)) 21 0, q7 _ (by rw [if_neg hn1]; unfold f_X12_token_b127; rw [if_neg (by decide)]), ?_, q3, q4, q1.trans ((TF_si 22 _ (by omega)).trans (TF_si 21 _ (by omega)))⟩
        refine Or.inr (Or.inr (Or.inr (Or.inr (Or.inr ⟨rfl, j, hj, ?_, rfl⟩))))
        rw [ej, show (32 : Int32) = nI 32 from rfl, nI_add]
      · exact absurd (show nI j0 < 0 by rw [h1]; decide) (nI_pos (by omega))
  · rcases Nat.lt_or_ge 6 (e - p) with h6 | h6
    · -- too long
      obtain ⟨K', k1, k2⟩ := putR hc hK 1 (nI p) 0
      refine ⟨_, _, K', clp _ (by unfold f_X9_takeWord_b25; rw [r1, pu_bnd, if_pos rfl, pk_sub hpe, if_pos (show (6 : Int32) < nI (e - p) from nI_lt (a := 6) (b := e - p) (by omega) (by omega)), k1, pu_bnd]), k2, by decide, fun v hv h19 h20 => ?_⟩
      obtain ⟨w, r', q1, q2, q3, q4, q5, q6, q7⟩ := rfp v hv h19 h20
      rcases q6 with ⟨j, hj, rfl, ej⟩ | ⟨_, rfl⟩
      · exact absurd (show nI (pm j) < 0 by rw [← ej]; decide) (nI_pos (by have := (wM j hj).1; omega))
      · refine ⟨si (si w 22 (-1)) 21 5, q7 _ (by rw [if_pos rfl, pk_sub hpe, if_neg (show ¬ nI (e - p) ≤ (6 : Int32) from nI_ge (a := 6) (b := e - p) (by omega) (by omega))]; unfold f_X12_token_b127; rw [if_neg (by decide)]), ?_, q3, q4, q1.trans ((TF_si 22 _ (by omega)).trans (TF_si 21 _ (by omega)))⟩
        exact Or.inr (Or.inl ⟨rfl, rfl⟩)
    · -- a name
      have h700 : ∃ x, f_X9_packed N T (nI p) (nI e) = some x := by
        obtain ⟨x, _, h, _⟩ := nameT (v := (fun q => if q = 18 then nI n else if q = 19 then nI e else nI p, (fun _ i => nI (b i)), fun _ _ => 0)) N hN hb hT he hl ⟨rfl, fun i _ => rfl⟩ rfl rfl hpe
        exact ⟨x, h⟩
      obtain ⟨x, hx1⟩ := h700
      obtain ⟨K', k1, k2⟩ := putR hc hK 3 (nI p) x
      refine ⟨_, _, K', clp _ (by unfold f_X9_takeWord_b25; rw [r1, pu_bnd, if_pos rfl, pk_sub hpe, if_neg (show ¬ (6 : Int32) < nI (e - p) from nI_nlt (a := 6) (b := e - p) (by omega) (by omega)), hx1, pu_bnd, k1, pu_bnd]), k2, by decide, fun v hv h19 h20 => ?_⟩
      obtain ⟨w, r', q1, q2, q3, q4, q5, q6, q7⟩ := rfp v hv h19 h20
      rcases q6 with ⟨j, hj, rfl, ej⟩ | ⟨_, rfl⟩
      · exact absurd (show nI (pm j) < 0 by rw [← ej]; decide) (nI_pos (by have := (wM j hj).1; omega))
      · have tf2 : TF v (si (si w 22 (-1)) 21 1) := q1.trans ((TF_si 22 _ (by omega)).trans (TF_si 21 _ (by omega)))
        obtain ⟨x', v', n1, n2, n3, n4, n5⟩ := nameT (v := si (si w 22 (-1)) 21 1) N hN hb hT he hl (RT_TF hv tf2) q3 q4 hpe
        have ex : x' = x := Option.some.inj (n1.symm.trans hx1)
        refine ⟨v', q7 _ (by rw [if_pos rfl, pk_sub hpe, if_pos (show nI (e - p) ≤ (6 : Int32) from nI_le (a := e - p) (b := 6) (by omega) (by omega))]; unfold f_X12_token_b127; rw [if_pos rfl, n2, pu_bnd]), ?_, (n4 19 (by omega)).trans q3, (n4 20 (by omega)).trans q4, tf2.trans ⟨fun k _ _ _ h => n4 k h, n5⟩⟩
        exact Or.inr (Or.inr (Or.inr (Or.inl ⟨rfl, n4 21 (by omega), by rw [n3, ex]⟩)))
