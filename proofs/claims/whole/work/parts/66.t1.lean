/-! text: the tokens -/
def tb (b : Nat) : Int32 := if b < 128 then nI b else nI b - 256
theorem tb_lo {b : Nat} (h : b < 128) : tb b = nI b := if_pos h
theorem tb_hi {b : Nat} (h : 128 ≤ b) : tb b = nI b - 256 := if_neg (by omega)
theorem tb_hi_toInt {b : Nat} (h : b < 256) : (nI b - 256).toInt = (b : Int) - 256 := by
  rw [show (256 : Int32) = nI 256 from rfl, pk_sub_toInt (by omega) (by omega)]; rfl
theorem tb_eq {b c : Nat} (hb : b < 256) (hc : c < 128) : tb b = nI c ↔ b = c := by
  rcases Nat.lt_or_ge b 128 with h | h
  · rw [tb_lo h]; exact nI_eq (by omega) (by omega)
  · rw [tb_hi h]
    constructor
    · intro e
      have := congrArg Int32.toInt e
      rw [tb_hi_toInt hb, nI_toInt (by omega)] at this
      omega
    · intro e; omega
theorem tb_lt {b c : Nat} (hb : b < 256) (hc : c < 128) : tb b < nI c ↔ b < c ∨ 128 ≤ b := by
  rcases Nat.lt_or_ge b 128 with h | h
  · rw [tb_lo h, Int32.lt_iff_toInt_lt, nI_toInt (by omega), nI_toInt (by omega)]; omega
  · rw [tb_hi h, Int32.lt_iff_toInt_lt, tb_hi_toInt hb, nI_toInt (by omega)]; omega
theorem lt_tb {b c : Nat} (hb : b < 256) (hc : c < 128) : nI c < tb b ↔ c < b ∧ b < 128 := by
  rcases Nat.lt_or_ge b 128 with h | h
  · rw [tb_lo h, Int32.lt_iff_toInt_lt, nI_toInt (by omega), nI_toInt (by omega)]; omega
  · rw [tb_hi h, Int32.lt_iff_toInt_lt, tb_hi_toInt hb, nI_toInt (by omega)]; omega
def dgB (b : Nat) : Bool := decide (48 ≤ b ∧ b ≤ 57)
def ltB (b : Nat) : Bool := decide (97 ≤ b ∧ b ≤ 122)
theorem dg_iff {b : Nat} : dgB b = true ↔ 48 ≤ b ∧ b ≤ 57 := by unfold dgB; exact decide_eq_true_iff
theorem lt_iff_ {b : Nat} : ltB b = true ↔ 97 ≤ b ∧ b ≤ 122 := by unfold ltB; exact decide_eq_true_iff
theorem digC {b : Nat} (hb : b < 256) : f_X9_isDigit (tb b) = some (if dgB b = true then 1 else 0) := by
  unfold f_X9_isDigit
  by_cases h1 : b < 48 ∨ 128 ≤ b
  · rw [if_pos (show tb b < 48 from (tb_lt (c := 48) hb (by omega)).mpr h1), if_neg (fun h => absurd (dg_iff.mp h) (by omega))]
  · rw [if_neg (show ¬ tb b < 48 from fun h => h1 ((tb_lt (c := 48) hb (by omega)).mp h))]
    by_cases h2 : 57 < b
    · rw [if_pos (show (57 : Int32) < tb b from (lt_tb (c := 57) hb (by omega)).mpr ⟨h2, by omega⟩), if_neg (fun h => absurd (dg_iff.mp h) (by omega))]
    · rw [if_neg (show ¬ (57 : Int32) < tb b from fun h => h2 ((lt_tb (c := 57) hb (by omega)).mp h).1), if_pos (dg_iff.mpr (by omega))]
theorem letC {b : Nat} (hb : b < 256) : f_X9_isLetter (tb b) = some (if ltB b = true then 1 else 0) := by
  unfold f_X9_isLetter
  by_cases h1 : b < 97 ∨ 128 ≤ b
  · rw [if_pos (show tb b < 97 from (tb_lt (c := 97) hb (by omega)).mpr h1), if_neg (fun h => absurd (lt_iff_.mp h) (by omega))]
  · rw [if_neg (show ¬ tb b < 97 from fun h => h1 ((tb_lt (c := 97) hb (by omega)).mp h))]
    by_cases h2 : 122 < b
    · rw [if_pos (show (122 : Int32) < tb b from (lt_tb (c := 122) hb (by omega)).mpr ⟨h2, by omega⟩), if_neg (fun h => absurd (lt_iff_.mp h) (by omega))]
    · rw [if_neg (show ¬ (122 : Int32) < tb b from fun h => h2 ((lt_tb (c := 122) hb (by omega)).mp h).1), if_pos (lt_iff_.mpr (by omega))]
theorem digX {b : Nat} (hb : b < 256) : f_X12_isDigit (nI b) = some (if dgB b = true then 1 else 0) := by
  unfold f_X12_isDigit
  by_cases h1 : b < 48
  · rw [if_pos (show nI (b) < (48 : Int32) from nI_lt (a := b) (b := 48) (by omega) (by omega)), if_neg (fun h => absurd (dg_iff.mp h) (by omega))]
  · rw [if_neg (show ¬ nI (b) < (48 : Int32) from nI_nlt (a := b) (b := 48) (by omega) (by omega))]
    by_cases h2 : 57 < b
    · rw [if_pos (show (57 : Int32) < nI (b) from nI_lt (a := 57) (b := b) (by omega) (by omega)), if_neg (fun h => absurd (dg_iff.mp h) (by omega))]
    · rw [if_neg (show ¬ (57 : Int32) < nI (b) from nI_nlt (a := 57) (b := b) (by omega) (by omega)), if_pos (dg_iff.mpr (by omega))]
theorem letX {b : Nat} (hb : b < 256) : f_X12_isSmall (nI b) = some (if ltB b = true then 1 else 0) := by
  unfold f_X12_isSmall
  by_cases h1 : b < 97
  · rw [if_pos (show nI (b) < (97 : Int32) from nI_lt (a := b) (b := 97) (by omega) (by omega)), if_neg (fun h => absurd (lt_iff_.mp h) (by omega))]
  · rw [if_neg (show ¬ nI (b) < (97 : Int32) from nI_nlt (a := b) (b := 97) (by omega) (by omega))]
    by_cases h2 : 122 < b
    · rw [if_pos (show (122 : Int32) < nI (b) from nI_lt (a := 122) (b := b) (by omega) (by omega)), if_neg (fun h => absurd (lt_iff_.mp h) (by omega))]
    · rw [if_neg (show ¬ (122 : Int32) < nI (b) from nI_nlt (a := 122) (b := b) (by omega) (by omega)), if_pos (lt_iff_.mpr (by omega))]
theorem digM : f_X12_isDigit (-1) = some 0 := rfl
theorem letM : f_X12_isSmall (-1) = some 0 := rfl
theorem scan_ex (Q : Nat → Bool) (b : Nat → Nat) (n : Nat) : ∀ k p, n - p = k → p ≤ n → ∃ e, p ≤ e ∧ e ≤ n ∧ (∀ i, p ≤ i → i < e → Q (b i) = true) ∧ (e < n → Q (b e) = false) := by
  intro k
  induction k with
  | zero => intro p hk hp; exact ⟨p, Nat.le_refl p, hp, fun i h1 h2 => by omega, fun h => by omega⟩
  | succ k ih =>
    intro p hk hp
    cases hq : Q (b p) with
    | false => exact ⟨p, Nat.le_refl p, hp, fun i h1 h2 => by omega, fun _ => hq⟩
    | true =>
      obtain ⟨e, e1, e2, e3, e4⟩ := ih (p + 1) (by omega) (by omega)
      refine ⟨e, by omega, e2, fun i h1 h2 => ?_, e4⟩
      by_cases ei : i = p
      · rw [ei]; exact hq
      · exact e3 i (by omega) h2
/-- the tape, for both sides -/
def HB (n : Nat) (b : Nat → Nat) : Prop := n ≤ 700 ∧ ∀ i, i < n → b i < 256
def CT (n : Nat) (b : Nat → Nat) (T : Nat → Int32) : Prop := ∀ i, i < n → T i = tb (b i)
def RT (n : Nat) (b : Nat → Nat) (v : VV) : Prop := v.1 18 = nI n ∧ ∀ i, i < n → v.2.1 1 i = nI (b i)
def TF (v v' : VV) : Prop := (∀ k, k ≠ 19 → k ≠ 20 → k ≠ 21 → k ≠ 22 → v'.1 k = v.1 k) ∧ v'.2 = v.2
theorem TF.refl (v : VV) : TF v v := ⟨fun _ _ _ _ _ => rfl, rfl⟩
theorem TF.trans {u v w : VV} (h : TF u v) (h' : TF v w) : TF u w := ⟨fun k a b c d => (h'.1 k a b c d).trans (h.1 k a b c d), h'.2.trans h.2⟩
theorem TF_si {v : VV} (k : Nat) (x : Int32) (hk : k = 19 ∨ k = 20 ∨ k = 21 ∨ k = 22) : TF v (si v k x) := ⟨fun q a b c d => by rw [pu_si1, if_neg (by omega)], rfl⟩
theorem RT_TF {n : Nat} {b : Nat → Nat} {v w : VV} (h : RT n b v) (hf : TF v w) : RT n b w := ⟨(hf.1 18 (by omega) (by omega) (by omega) (by omega)).trans h.1, by rw [hf.2]; exact h.2⟩
theorem hereR {n p : Nat} {b : Nat → Nat} {v : VV} (hb : HB n b) (h : RT n b v) (h19 : v.1 19 = nI p) (hp : p ≤ n) : f_X12_here v = some (if p < n then nI (b p) else -1) := by
  have h7 := hb.1
  unfold f_X12_here
  rw [h.1, h19]
  by_cases c : p < n
  · rw [if_neg (nI_ge c (by omega)), if_pos c, pu_gin (show p < 700 by omega) (show 700 < 2 ^ 31 by omega), nI_clamp (show p < 2 ^ 31 by omega), h.2 p c]
  · rw [if_pos (nI_le (by omega) (by omega)), if_neg c]
theorem putR {K : VV} {c : Nat} (hc : c ≤ 700) (hK : K.1 3 = nI c) (k pl vl : Int32) : ∃ K', f_X9_put K k pl vl = some K' ∧ K'.1 3 = nI (c + 1) ∧ (K'.2.1 0 c = k ∧ K'.2.1 1 c = pl ∧ K'.2.1 2 c = vl) ∧ ∀ i, i < c → K'.2.1 0 i = K.2.1 0 i ∧ K'.2.1 1 i = K.2.1 1 i ∧ K'.2.1 2 i = K.2.1 2 i := by
  unfold f_X9_put
  rw [hK, if_neg (show ¬ (701 : Int32) ≤ nI (c) from nI_ge (a := c) (b := 701) (by omega) (by omega)), pu_gin (show c < 701 by omega) (show 701 < 2 ^ 31 by omega), nI_clamp (show c < 2 ^ 31 by omega), pu_gin (show c < 701 by omega) (show 701 < 2 ^ 31 by omega), pu_gin (show c < 701 by omega) (show 701 < 2 ^ 31 by omega), nI_1]
  refine ⟨_, rfl, rfl, ⟨pk_us, pk_us, pk_us⟩, fun i hi => ⟨pk_un (by omega), pk_un (by omega), pk_un (by omega)⟩⟩
def PUT (K : VV) (c : Nat) (k pl vl : Int32) (K' : VV) : Prop := K'.1 3 = nI (c + 1) ∧ (K'.2.1 0 c = k ∧ K'.2.1 1 c = pl ∧ K'.2.1 2 c = vl) ∧ ∀ i, i < c → K'.2.1 0 i = K.2.1 0 i ∧ K'.2.1 1 i = K.2.1 1 i ∧ K'.2.1 2 i = K.2.1 2 i
/-! words -/
def clL : List Nat := [5, 4, 3, 5, 4, 4, 5, 7, 3, 4, 4, 4, 2, 3, 3, 4, 4, 4, 5, 6, 6, 4]
def rlL : List Nat := [5, 5, 7, 4, 3, 5, 4, 4, 3, 4, 4, 4, 2, 3, 3, 4, 4, 4, 5, 6, 6, 4]
def pmL : List Nat := [6, 0, 7, 1, 2, 3, 4, 5, 8, 9, 10, 11, 12, 13, 14, 15, 16, 17, 18, 19, 20, 21]
def csL : List Nat := [0, 6, 11, 15, 21, 26, 31, 37, 45, 49, 54, 59, 64, 67, 71, 75, 80, 85, 90, 96, 103, 110, 115]
def rsL : List Nat := [0, 6, 12, 20, 25, 29, 35, 40, 45, 49, 54, 59, 64, 67, 71, 75, 80, 85, 90, 96, 103, 110, 115]
def cl (j : Nat) : Nat := clL.getD j 0
def rl (j : Nat) : Nat := rlL.getD j 0
def pm (j : Nat) : Nat := pmL.getD j 0
def cs (j : Nat) : Nat := csL.getD j 0
def rs (j : Nat) : Nat := rsL.getD j 0
theorem wC : ∀ j, j < 22 → cs j + cl j < 115 ∧ cs (j + 1) = cs j + cl j + 1 ∧ stc 0 (cs j + cl j) = 32 ∧ 2 ≤ cl j ∧ cl j ≤ 7 ∧ ∀ x, x < cl j → ¬ stc 0 (cs j + x) = 32 := by decide +kernel
theorem wR : ∀ j, j < 22 → rs j + rl j < 115 ∧ rs (j + 1) = rs j + rl j + 1 ∧ stc 3 (rs j + rl j) = 32 ∧ 2 ≤ rl j ∧ rl j ≤ 7 ∧ ∀ x, x < rl j → ¬ stc 3 (rs j + x) = 32 := by decide +kernel
theorem wM : ∀ j, j < 22 → pm j < 22 ∧ rl j = cl (pm j) ∧ ∀ x, x < rl j → stc 3 (rs j + x) = stc 0 (cs (pm j) + x) := by decide +kernel
theorem wS : ∀ j, j < 22 → ∃ i, i < 22 ∧ pm i = j := by decide +kernel
theorem wD : ∀ j, j < 22 → ∀ i, i < 22 → cl i = cl j → (∀ x, x < cl j → stc 0 (cs i + x) = stc 0 (cs j + x)) → i = j := by decide +kernel
def mtC (b : Nat → Nat) (p e j : Nat) : Prop := e - p = cl j ∧ ∀ x, x < cl j → stc 0 (cs j + x) = nI (b (p + x))
def mtX (b : Nat → Nat) (p e j : Nat) : Prop := e - p = rl j ∧ ∀ x, x < rl j → stc 3 (rs j + x) = nI (b (p + x))
theorem isWordAtR (N : Nat) (hN : 2000 < N) {n p e j : Nat} {b : Nat → Nat} {T : Nat → Int32} (hn : n ≤ 700) (hT : CT n b T) (he : e ≤ n) (hpe : p ≤ e) (hl : ∀ i, p ≤ i → i < e → ltB (b i) = true) (hj : j < 22) (hlen : e - p = cl j) : ∃ r, f_X9_isWordAt N T (nI (cs j)) (nI p) (nI e) = some r ∧ ((r = 1 ∧ mtC b p e j) ∨ (r = 0 ∧ ¬ mtC b p e j)) := by
  obtain ⟨w1, w2, w3, w4, w5, w6⟩ := wC j hj
  unfold f_X9_isWordAt
  refine itr1 (A := fun q : Int32 => f_X9_isWordAt_s3 N T (nI (cs j)) (nI p) (nI e) q) (fun x y => ∃ i, x = e - i ∧ p ≤ i ∧ i ≤ e ∧ y = nI i ∧ ∀ x, x < i - p → stc 0 (cs j + x) = nI (b (p + x))) (fun r => (r = 1 ∧ mtC b p e j) ∨ (r = 0 ∧ ¬ mtC b p e j)) ?_ N (e - p) (nI p) (by omega) ⟨p, rfl, Nat.le_refl p, hpe, rfl, fun x hx => by omega⟩
  intro x y hR
  obtain ⟨i, hx, hi1, hi2, rfl, f1⟩ := hR
  unfold f_X9_isWordAt_s3
  rcases Nat.lt_or_ge i e with hlt | hge
  · have bl := lt_iff_.mp (hl i hi1 hlt)
    have eT : T i = nI (b i) := by rw [hT i (by omega), tb_lo (by omega)]
    have ei : nI (cs j) + nI i - nI p = nI (cs j + (i - p)) := by rw [nI_add, pk_sub (by omega), show cs j + i - p = cs j + (i - p) by omega]
    rw [if_neg (nI_ge hlt (by omega)), if_neg (show ¬ (700 : Int32) ≤ nI (i) from nI_ge (a := i) (b := 700) (by omega) (by omega)), ei, if_neg (show ¬ (115 : Int32) ≤ nI (cs j + (i - p)) from nI_ge (a := cs j + (i - p)) (b := 115) (by omega) (by omega)), pu_gin (show cs j + (i - p) < 115 by omega) (show 115 < 2 ^ 31 by omega), pu_gin (show i < 700 by omega) (show 700 < 2 ^ 31 by omega), nI_clamp (show cs j + (i - p) < 2 ^ 31 by omega), nI_clamp (show i < 2 ^ 31 by omega), eT, nI_1]
    by_cases c : stc 0 (cs j + (i - p)) = nI (b i)
    · left
      rw [if_pos c]
      refine ⟨e - (i + 1), _, by omega, rfl, i + 1, rfl, by omega, hlt, rfl, fun x hx => ?_⟩
      by_cases ex : x = i - p
      · rw [ex, c, show p + (i - p) = i by omega]
      · exact f1 x (by omega)
    · right
      rw [if_neg c, pu_inrO]
      exact ⟨_, rfl, Or.inr ⟨rfl, fun h => c (by rw [h.2 (i - p) (by omega), show p + (i - p) = i by omega])⟩⟩
  · right
    have : i = e := by omega
    subst this
    rw [if_pos (nI_le (Nat.le_refl i) (by omega)), pu_inrO]
    exact ⟨_, rfl, Or.inl ⟨rfl, hlen, fun x hx => f1 x (by omega)⟩⟩
theorem wordC (N : Nat) (hN : 2000 < N) {n p e : Nat} {b : Nat → Nat} {T : Nat → Int32} (hn : n ≤ 700) (hT : CT n b T) (he : e ≤ n) (hpe : p ≤ e) (hl : ∀ i, p ≤ i → i < e → ltB (b i) = true) : ∃ r, f_X9_wordOf N T (nI p) (nI e) = some r ∧ ((∃ j, j < 22 ∧ r = nI j ∧ mtC b p e j) ∨ (r = -1 ∧ ∀ j, j < 22 → ¬ mtC b p e j)) := by
  unfold f_X9_wordOf
  refine itr1 (A := fun q : Int32 × Int32 × Int32 => f_X9_wordOf_s8 N T (nI p) (nI e) q.1 q.2.1 q.2.2) (fun x y => ∃ j i, x = 115 - i ∧ j ≤ 22 ∧ i ≤ 115 ∧ y = (nI j, nI (cs j), nI i) ∧ (j < 22 → cs j ≤ i ∧ i ≤ cs j + cl j) ∧ (j = 22 → i = 115) ∧ ∀ j', j' < j → ¬ mtC b p e j') (fun r => (∃ j, j < 22 ∧ r = nI j ∧ mtC b p e j) ∨ (r = -1 ∧ ∀ j, j < 22 → ¬ mtC b p e j)) ?_ N 115 (0, 0, 0) (by omega) ⟨0, 0, rfl, by omega, by omega, rfl, fun _ => ⟨by decide, by decide⟩, fun h => by omega, fun j' h => by omega⟩
  intro x y hR
  obtain ⟨j, i, hx, hj, hi, rfl, f1, f2, f3⟩ := hR
  simp only
  unfold f_X9_wordOf_s8 f_X9_wordOf_b54 f_X9_wordOf_b63
  rcases Nat.lt_or_ge j 22 with hlt | hge
  · obtain ⟨w1, w2, w3, w4, w5, w6⟩ := wC j hlt
    obtain ⟨g1, g2⟩ := f1 hlt
    rw [if_neg (show ¬ (115 : Int32) ≤ nI (i) from nI_ge (a := i) (b := 115) (by omega) (by omega)), pu_gin (show i < 115 by omega) (show 115 < 2 ^ 31 by omega), nI_clamp (show i < 2 ^ 31 by omega), nI_1, nI_1]
    by_cases c : i = cs j + cl j
    · have next : ¬ mtC b p e j → ∃ m' t, m' < x ∧ (some (Sum.inl (nI (j + 1), nI (i + 1), nI (i + 1))) : Option ((Int32 × Int32 × Int32) ⊕ Int32)) = some (.inl t) ∧ ∃ j i, m' = 115 - i ∧ j ≤ 22 ∧ i ≤ 115 ∧ t = (nI j, nI (cs j), nI i) ∧ (j < 22 → cs j ≤ i ∧ i ≤ cs j + cl j) ∧ (j = 22 → i = 115) ∧ ∀ j', j' < j → ¬ mtC b p e j' := by
        intro hno
        refine ⟨115 - (i + 1), _, by omega, rfl, j + 1, i + 1, rfl, by omega, by omega, by rw [w2, c], fun h => by rw [w2]; have := (wC (j + 1) h).2.2.2.1; omega, fun h => ?_, fun j' h => ?_⟩
        · have : cs (j + 1) = 115 := by rw [h]; decide
          omega
        · by_cases e' : j' = j
          · rw [e']; exact hno
          · exact f3 j' (by omega)
      rw [if_pos (by rw [c]; exact w3), pk_sub (show cs j ≤ i by omega), pk_sub hpe]
      by_cases c2 : i - cs j = e - p
      · obtain ⟨r, r1, r2⟩ := isWordAtR N hN hn hT he hpe hl hlt (by omega)
        rw [if_pos (by rw [c2]), r1, pu_bnd]
        rcases r2 with ⟨rfl, r3⟩ | ⟨rfl, r3⟩
        · right
          rw [if_neg (by decide), pu_inrO]
          exact ⟨_, rfl, Or.inl ⟨j, hlt, rfl, r3⟩⟩
        · left
          rw [if_pos rfl]
          exact next r3
      · left
        rw [if_neg (fun h => c2 ((nI_eq (by omega) (by omega)).mp h))]
        exact next (fun h => c2 (by have := h.1; omega))
    · left
      have ne : ¬ stc 0 i = 32 := by
        have := w6 (i - cs j) (by omega)
        rw [show cs j + (i - cs j) = i by omega] at this; exact this
      rw [if_neg ne]
      exact ⟨115 - (i + 1), _, by omega, rfl, j, i + 1, rfl, hj, by omega, rfl, fun _ => by omega, fun h => by omega, f3⟩
  · right
    have hj22 : j = 22 := by omega
    have hi115 := f2 hj22
    rw [hi115, if_pos (show (115 : Int32) ≤ nI 115 from by decide), pu_inrO]
    exact ⟨_, rfl, Or.inr ⟨rfl, fun j' h => f3 j' (by omega)⟩⟩
theorem wordX (N : Nat) (hN : 2000 < N) {n p e : Nat} {b : Nat → Nat} {v : VV} (hb : HB n b) (hv : RT n b v) (h19 : v.1 19 = nI e) (h20 : v.1 20 = nI p) (he : e ≤ n) (hpe : p ≤ e) : ∃ r, f_X12_word N v = some r ∧ ((∃ j, j < 22 ∧ r = nI j ∧ mtX b p e j) ∨ (r = -1 ∧ ∀ j, j < 22 → ¬ mtX b p e j)) := by
  have hn := hb.1
  unfold f_X12_word
  refine itr1 (A := fun q : Int32 × Int32 => f_X12_word_s4 N v q.1 q.2) (fun x y => ∃ j, x = 22 - j ∧ j ≤ 22 ∧ y = (nI j, nI (rs j)) ∧ ∀ j', j' < j → ¬ mtX b p e j') (fun r => (∃ j, j < 22 ∧ r = nI j ∧ mtX b p e j) ∨ (r = -1 ∧ ∀ j, j < 22 → ¬ mtX b p e j)) ?_ N 22 (0, 0) (by omega) ⟨0, rfl, by omega, rfl, fun j' h => by omega⟩
  intro x y hR
  obtain ⟨j, hx, hj, rfl, f3⟩ := hR
  simp only
  unfold f_X12_word_s4
  rcases Nat.lt_or_ge j 22 with hlt | hge
  · obtain ⟨w1, w2, w3, w4, w5, w6⟩ := wR j hlt
    rw [if_neg (show ¬ (115 : Int32) ≤ nI (rs j) from nI_ge (a := rs j) (b := 115) (by omega) (by omega))]
    -- to the next word
    have skip : itr (fun q : Int32 => f_X12_word_s97 N v (nI j) q) N (nI (rs j)) = some (.inl (nI (j + 1), nI (rs (j + 1)))) := by
      have := itrF (A := fun q : Int32 => f_X12_word_s97 N v (nI j) q) (rl j) (fun i => nI (rs j + i)) (.inl (nI (j + 1), nI (rs (j + 1)))) (by
        intro i hi
        show f_X12_word_s97 N v (nI j) (nI (rs j + i)) = _
        unfold f_X12_word_s97
        rw [pu_gin (show rs j + i < 115 by omega) (show 115 < 2 ^ 31 by omega), nI_clamp (show rs j + i < 2 ^ 31 by omega), if_neg (w6 i hi), nI_1]; rfl) (by
        show f_X12_word_s97 N v (nI j) (nI (rs j + rl j)) = _
        unfold f_X12_word_s97
        rw [pu_gin (show rs j + rl j < 115 by omega) (show 115 < 2 ^ 31 by omega), nI_clamp (show rs j + rl j < 2 ^ 31 by omega), if_pos w3, pu_inrO, nI_1, nI_1, w2]) N 0 (by omega) (by omega)
      exact this
    have b69 : ∀ i, rs j + i < 115 → p + i ≤ e → (stc 3 (rs j + i) = 32 → p + i = e → mtX b p e j) → ((¬ stc 3 (rs j + i) = 32 ∨ ¬ p + i = e) → ¬ mtX b p e j) → ∃ r, f_X12_word_b69 N v (nI j) (nI (rs j)) (nI i) = some r ∧ ((r = .inr (nI j) ∧ mtX b p e j) ∨ (r = .inl (nI (j + 1), nI (rs (j + 1))) ∧ ¬ mtX b p e j)) := by
      intro i h1 h2 h3 h4
      unfold f_X12_word_b69
      rw [nI_add, pu_gin (show rs j + i < 115 by omega) (show 115 < 2 ^ 31 by omega), nI_clamp (show rs j + i < 2 ^ 31 by omega), h20, h19, nI_add, skip]
      by_cases c1 : stc 3 (rs j + i) = 32
      · rw [if_pos c1]
        by_cases c2 : p + i = e
        · rw [if_pos (by rw [c2]), pu_inrO]
          exact ⟨_, rfl, Or.inl ⟨rfl, h3 c1 c2⟩⟩
        · rw [if_neg (fun h => c2 ((nI_eq (by omega) (by omega)).mp h))]
          exact ⟨_, rfl, Or.inr ⟨rfl, h4 (Or.inr c2)⟩⟩
      · rw [if_neg c1]
        exact ⟨_, rfl, Or.inr ⟨rfl, h4 (Or.inl c1)⟩⟩
    obtain ⟨r, r1, r2⟩ := itr1 (A := fun q : Int32 => f_X12_word_s15 N v (nI j) (nI (rs j)) q) (fun x y => ∃ i, x = rl j - i ∧ i ≤ rl j ∧ p + i ≤ e ∧ y = nI i ∧ ∀ x, x < i → stc 3 (rs j + x) = nI (b (p + x))) (fun r => (r = .inr (nI j) ∧ mtX b p e j) ∨ (r = .inl (nI (j + 1), nI (rs (j + 1))) ∧ ¬ mtX b p e j)) (by
      intro x y hR
      obtain ⟨i, hx, hi, hie, rfl, g1⟩ := hR
      unfold f_X12_word_s15
      rw [nI_add, pu_gin (show rs j + i < 115 by omega) (show 115 < 2 ^ 31 by omega), nI_clamp (show rs j + i < 2 ^ 31 by omega), h20, h19, nI_add]
      by_cases ci : i = rl j
      · right
        obtain ⟨r, q1, q2⟩ := b69 i (by omega) hie (fun _ h => ⟨by omega, fun x hx => g1 x (by omega)⟩) (fun h hm => by
          rcases h with h | h
          · exact h (by rw [ci]; exact w3)
          · have := hm.1; omega)
        rw [if_pos (by rw [ci]; exact w3), q1, pu_inrO]
        exact ⟨_, rfl, q2⟩
      · have ne : ¬ stc 3 (rs j + i) = 32 := w6 i (by omega)
        rw [if_neg ne]
        by_cases ce : p + i = e
        · right
          obtain ⟨r, q1, q2⟩ := b69 i (by omega) hie (fun h _ => absurd h ne) (fun _ hm => by have := hm.1; omega)
          rw [if_pos (nI_le (by omega) (by omega)), q1, pu_inrO]
          exact ⟨_, rfl, q2⟩
        · rw [if_neg (nI_ge (by omega) (by omega)), pu_gin (show p + i < 700 by omega) (show 700 < 2 ^ 31 by omega), nI_clamp (show p + i < 2 ^ 31 by omega), hv.2 (p + i) (by omega), nI_1]
          simp only [pu_gin (show rs j + i < 115 by omega) (show 115 < 2 ^ 31 by omega)]
          by_cases cc : nI (b (p + i)) = stc 3 (rs j + i)
          · left
            rw [if_pos cc]
            refine ⟨rl j - (i + 1), _, by omega, rfl, i + 1, rfl, by omega, by omega, rfl, fun x hx => ?_⟩
            by_cases ex : x = i
            · rw [ex]; exact cc.symm
            · exact g1 x (by omega)
          · right
            obtain ⟨r, q1, q2⟩ := b69 i (by omega) hie (fun h _ => absurd h ne) (fun _ hm => cc (hm.2 i (by omega)).symm)
            rw [if_neg cc, q1, pu_inrO]
            exact ⟨_, rfl, q2⟩) N (rl j) 0 (by omega) ⟨0, rfl, by omega, by omega, rfl, fun x hx => by omega⟩
    rw [r1]
    rcases r2 with ⟨rfl, r3⟩ | ⟨rfl, r3⟩
    · right; exact ⟨_, rfl, Or.inl ⟨j, hlt, rfl, r3⟩⟩
    · left
      refine ⟨22 - (j + 1), _, by omega, rfl, j + 1, rfl, by omega, rfl, fun j' h => ?_⟩
      by_cases e' : j' = j
      · rw [e']; exact r3
      · exact f3 j' (by omega)
  · right
    have hj22 : j = 22 := by omega
    rw [hj22, if_pos (show (115 : Int32) ≤ nI (rs 22) from by decide), pu_inrO]
    exact ⟨_, rfl, Or.inr ⟨rfl, fun j' h => f3 j' (by omega)⟩⟩
theorem word2 {b : Nat → Nat} {p e : Nat} {r r' : Int32} (h : (∃ j, j < 22 ∧ r = nI j ∧ mtC b p e j) ∨ (r = -1 ∧ ∀ j, j < 22 → ¬ mtC b p e j)) (h' : (∃ j, j < 22 ∧ r' = nI j ∧ mtX b p e j) ∨ (r' = -1 ∧ ∀ j, j < 22 → ¬ mtX b p e j)) : (∃ j, j < 22 ∧ r' = nI j ∧ r = nI (pm j)) ∨ (r = -1 ∧ r' = -1) := by
  have tr : ∀ j, j < 22 → (mtX b p e j ↔ mtC b p e (pm j)) := by
    intro j hj
    obtain ⟨m1, m2, m3⟩ := wM j hj
    unfold mtX mtC
    rw [m2]
    constructor
    · intro h; exact ⟨h.1, fun x hx => by rw [← m3 x (by omega)]; exact h.2 x hx⟩
    · intro h; exact ⟨h.1, fun x hx => by rw [m3 x (by omega)]; exact h.2 x hx⟩
  rcases h' with ⟨j, hj, rfl, hm⟩ | ⟨rfl, hm⟩
  · left
    have hc := (tr j hj).mp hm
    rcases h with ⟨i, hi, rfl, hi2⟩ | ⟨rfl, hi2⟩
    · have : i = pm j := wD (pm j) (wM j hj).1 i hi (by rw [← hi2.1, ← hc.1]) (fun x hx => by rw [hi2.2 x (by rw [← hi2.1, hc.1]; exact hx), hc.2 x hx])
      exact ⟨j, hj, rfl, by rw [this]⟩
    · exact absurd hc (hi2 _ (wM j hj).1)
  · rcases h with ⟨i, hi, rfl, hi2⟩ | ⟨rfl, hi2⟩
    · obtain ⟨j, hj, ej⟩ := wS i hi
      rw [← ej] at hi2
      exact absurd ((tr j hj).mpr hi2) (hm j hj)
    · exact Or.inr ⟨rfl, rfl⟩
