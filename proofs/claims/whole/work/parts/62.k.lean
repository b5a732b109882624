/-! crowd -/
def nL (n : Nat) : Int64 := Int64.ofNat n
theorem nL_add (a b : Nat) : nL a + nL b = nL (a + b) := (Int64.ofNat_add a b).symm
theorem nL_mul (a b : Nat) : nL a * nL b = nL (a * b) := (Int64.ofNat_mul a b).symm
theorem nL_toInt {n : Nat} (h : n < 2 ^ 63) : (nL n).toInt = n := lg_ofNat_toInt h
theorem nL_ne0 {n : Nat} (h0 : 0 < n) (h : n < 2 ^ 63) : ¬ nL n = 0 := fun e => by
  have := congrArg Int64.toInt e
  rw [nL_toInt h, show (0 : Int64).toInt = 0 from by decide] at this
  omega
theorem nL_nle {n : Nat} (h0 : 0 < n) (h : n < 2 ^ 63) : ¬ nL n ≤ 0 := by
  rw [Int64.le_iff_toInt_le, nL_toInt h, show (0 : Int64).toInt = 0 from by decide]
  omega
theorem nL_i {n : Nat} (h : n < 2 ^ 31) : (nI n).toInt64 = nL n := by
  apply Int64.toInt_inj.mp
  rw [Int32.toInt_toInt64, nI_toInt h, nL_toInt (by omega)]
theorem nL_rem {a d : Nat} (ha : a < 2 ^ 63) (h0 : 0 < d) (hd : d < 2 ^ 63) : nL a - nL a / nL d * nL d = nL (a % d) := by
  have e : nL a / nL d = nL (a / d) := by
    apply Int64.toInt_inj.mp
    rw [lg_ldiv_nonneg (by rw [nL_toInt ha]; omega) (by rw [nL_toInt hd]; omega), nL_toInt ha, nL_toInt hd, nL_toInt (Nat.lt_of_le_of_lt (Nat.div_le_self a d) ha)]
    first | rfl | exact (Int.natCast_ediv _ _).symm
  have e2 : nL a = nL (a % d) + nL (a / d * d) := by
    rw [nL_add]; exact congrArg nL (by have := Nat.div_add_mod' a d; omega)
  rw [e, nL_mul]
  conv => lhs; lhs; rw [e2]
  exact Int64.add_sub_cancel _ _
/-- sums -/
def Sm (f : Nat → Nat) : Nat → Nat
  | 0 => 0
  | k + 1 => Sm f k + f k
theorem Sm_congr {f g : Nat → Nat} : ∀ k, (∀ i, i < k → f i = g i) → Sm f k = Sm g k := by
  intro k
  induction k with
  | zero => intro _; rfl
  | succ k ih => intro h; show Sm f k + f k = Sm g k + g k; rw [ih (fun i hi => h i (by omega)), h k (by omega)]
theorem Sm_0 {f : Nat → Nat} : ∀ k, (∀ i, i < k → f i = 0) → Sm f k = 0 := by
  intro k
  induction k with
  | zero => intro _; rfl
  | succ k ih => intro h; show Sm f k + f k = 0; rw [ih (fun i hi => h i (by omega)), h k (by omega)]
theorem Sm_lin (f g : Nat → Nat) (a b : Nat) : ∀ k, Sm (fun i => a * f i + b * g i) k = a * Sm f k + b * Sm g k := by
  intro k
  induction k with
  | zero => rfl
  | succ k ih =>
    show Sm (fun i => a * f i + b * g i) k + (a * f k + b * g k) = a * (Sm f k + f k) + b * (Sm g k + g k)
    rw [ih, Nat.mul_add, Nat.mul_add]; omega
theorem Sm_add (f : Nat → Nat) (a : Nat) : ∀ b, Sm f (a + b) = Sm f a + Sm (fun i => f (a + i)) b := by
  intro b
  induction b with
  | zero => rfl
  | succ b ih =>
    show Sm f (a + b) + f (a + b) = Sm f a + (Sm (fun i => f (a + i)) b + f (a + b))
    rw [ih]; omega
theorem Sm_shift (h : Nat → Nat) (z : Nat) : ∀ k, Sm (fun n => if z ≤ n then h (n - z) else 0) (z + k) = Sm h k := by
  intro k
  rw [Sm_add, Sm_0 z (fun i hi => if_neg (by omega)), Nat.zero_add]
  exact Sm_congr k (fun i _ => by rw [if_pos (by omega), show z + i - z = i by omega])
/-- the weight of all ways in which those with numbers below k come or don't -/
def Wt (z y : Nat → Nat) (h : Nat → Nat) : Nat → (Nat → Nat) → Nat
  | 0, g => g 0
  | k + 1, g => y (h k) * Wt z y h k g + (100 - y (h k)) * Wt z y h k (fun p => g (p + z (h k)))
def cw (z y : Nat → Nat) (h : Nat → Nat) : Nat → Nat → Nat
  | 0, n => if n = 0 then 1 else 0
  | k + 1, n => cw z y h k n * y (h k) + (if z (h k) ≤ n then cw z y h k (n - z (h k)) * (100 - y (h k)) else 0)
theorem cw_congr {z y h h' : Nat → Nat} : ∀ k, (∀ x, x < k → h x = h' x) → ∀ n, cw z y h k n = cw z y h' k n := by
  intro k
  induction k with
  | zero => intro _ n; rfl
  | succ k ih =>
    intro e n
    have i := ih (fun x hx => e x (by omega))
    show cw z y h k n * y (h k) + (if z (h k) ≤ n then cw z y h k (n - z (h k)) * (100 - y (h k)) else 0) = cw z y h' k n * y (h' k) + (if z (h' k) ≤ n then cw z y h' k (n - z (h' k)) * (100 - y (h' k)) else 0)
    rw [e k (by omega), i n, i (n - z (h' k))]
theorem cw_Wt (z y h : Nat → Nat) : ∀ k (M : Nat) (g : Nat → Nat), Sm (fun x => z (h x)) k < M → Sm (fun n => g n * cw z y h k n) M = Wt z y h k g := by
  intro k
  induction k with
  | zero =>
    intro M g hM
    obtain ⟨q, rfl⟩ : ∃ q, M = 1 + q := ⟨M - 1, by omega⟩
    rw [Sm_add]
    show 0 + g 0 * (if 0 = 0 then 1 else 0) + _ = g 0
    rw [Sm_0 q (fun i _ => by show g (1 + i) * (if 1 + i = 0 then 1 else 0) = 0; rw [if_neg (by omega), Nat.mul_zero]), if_pos rfl]; omega
  | succ k ih =>
    intro M g hM
    have hM' : Sm (fun x => z (h x)) k + z (h k) < M := hM
    obtain ⟨q, rfl⟩ : ∃ q, M = z (h k) + q := ⟨M - z (h k), by omega⟩
    have e : ∀ n, g n * cw z y h (k + 1) n = y (h k) * (g n * cw z y h k n) + (100 - y (h k)) * (if z (h k) ≤ n then (fun j => g (j + z (h k)) * cw z y h k j) (n - z (h k)) else 0) := by
      intro n
      show g n * (cw z y h k n * y (h k) + (if z (h k) ≤ n then cw z y h k (n - z (h k)) * (100 - y (h k)) else 0)) = _
      by_cases c : z (h k) ≤ n
      · rw [if_pos c, if_pos c]
        show g n * (cw z y h k n * y (h k) + cw z y h k (n - z (h k)) * (100 - y (h k))) = y (h k) * (g n * cw z y h k n) + (100 - y (h k)) * (g (n - z (h k) + z (h k)) * cw z y h k (n - z (h k)))
        rw [Nat.sub_add_cancel c, Nat.mul_add]
        congr 1
        · rw [← Nat.mul_assoc, Nat.mul_comm]
        · rw [← Nat.mul_assoc, Nat.mul_comm]
      · rw [if_neg c, if_neg c, Nat.mul_zero, Nat.add_zero, Nat.add_zero, ← Nat.mul_assoc, Nat.mul_comm]
    rw [Sm_congr _ (fun i _ => e i), Sm_lin, ih _ g (by omega), Sm_shift (fun j => g (j + z (h k)) * cw z y h k j) (z (h k)) q]
    have := ih q (fun p => g (p + z (h k))) (by omega)
    rw [this]
    rfl
theorem Wt_le (z y h : Nat → Nat) (hy : ∀ x, y x ≤ 100) : ∀ k (g : Nat → Nat), (∀ p, g p ≤ 1) → Wt z y h k g ≤ 100 ^ k := by
  intro k
  induction k with
  | zero => intro g hg; exact hg 0
  | succ k ih =>
    intro g hg
    have a := ih g hg
    have b := ih (fun p => g (p + z (h k))) (fun p => hg _)
    show y (h k) * Wt z y h k g + (100 - y (h k)) * Wt z y h k (fun p => g (p + z (h k))) ≤ 100 ^ (k + 1)
    have c1 := Nat.mul_le_mul_left (y (h k)) a
    have c2 := Nat.mul_le_mul_left (100 - y (h k)) b
    have e : y (h k) * 100 ^ k + (100 - y (h k)) * 100 ^ k = 100 ^ (k + 1) := by
      rw [← Nat.add_mul, Nat.add_sub_cancel' (hy (h k)), Nat.pow_succ, Nat.mul_comm]
    omega
/-- one way: bits of a -/
def psn (z h : Nat → Nat) (a : Nat) : Nat → Nat
  | 0 => 0
  | k + 1 => psn z h a k + (if a.testBit k = true then z (h k) else 0)
def wgt (y h : Nat → Nat) (a : Nat) : Nat → Nat
  | 0 => 1
  | k + 1 => wgt y h a k * (if a.testBit k = true then 100 - y (h k) else y (h k))
theorem psn_congr {z h : Nat → Nat} {a b : Nat} : ∀ k, (∀ x, x < k → a.testBit x = b.testBit x) → psn z h a k = psn z h b k := by
  intro k
  induction k with
  | zero => intro _; rfl
  | succ k ih =>
    intro e
    show psn z h a k + (if a.testBit k = true then _ else 0) = psn z h b k + (if b.testBit k = true then _ else 0)
    rw [ih (fun x hx => e x (by omega)), e k (by omega)]
theorem wgt_congr {y h : Nat → Nat} {a b : Nat} : ∀ k, (∀ x, x < k → a.testBit x = b.testBit x) → wgt y h a k = wgt y h b k := by
  intro k
  induction k with
  | zero => intro _; rfl
  | succ k ih =>
    intro e
    show wgt y h a k * (if a.testBit k = true then _ else _) = wgt y h b k * (if b.testBit k = true then _ else _)
    rw [ih (fun x hx => e x (by omega)), e k (by omega)]
theorem set_Wt (z y h : Nat → Nat) : ∀ k (g : Nat → Nat), Sm (fun a => g (psn z h a k) * wgt y h a k) (2 ^ k) = Wt z y h k g := by
  intro k
  induction k with
  | zero =>
    intro g
    show 0 + g 0 * 1 = g 0
    omega
  | succ k ih =>
    intro g
    rw [show 2 ^ (k + 1) = 2 ^ k + 2 ^ k by rw [Nat.pow_succ]; omega, Sm_add]
    have e1 : Sm (fun a => g (psn z h a (k + 1)) * wgt y h a (k + 1)) (2 ^ k) = y (h k) * Sm (fun a => g (psn z h a k) * wgt y h a k) (2 ^ k) + 0 * Sm (fun _ => 0) (2 ^ k) := by
      rw [← Sm_lin]
      refine Sm_congr _ (fun a ha => ?_)
      have hb : a.testBit k = false := Nat.testBit_lt_two_pow ha
      show g (psn z h a k + (if a.testBit k = true then _ else 0)) * (wgt y h a k * (if a.testBit k = true then _ else y (h k))) = y (h k) * (g (psn z h a k) * wgt y h a k) + 0 * 0
      rw [hb, if_neg (by decide), if_neg (by decide), Nat.add_zero, Nat.mul_zero, Nat.add_zero, ← Nat.mul_assoc, Nat.mul_comm]
    have e2 : Sm (fun i => g (psn z h (2 ^ k + i) (k + 1)) * wgt y h (2 ^ k + i) (k + 1)) (2 ^ k) = (100 - y (h k)) * Sm (fun a => (fun p => g (p + z (h k))) (psn z h a k) * wgt y h a k) (2 ^ k) + 0 * Sm (fun _ => 0) (2 ^ k) := by
      rw [← Sm_lin]
      refine Sm_congr _ (fun a ha => ?_)
      have hb : (2 ^ k + a).testBit k = true := by rw [Nat.testBit_two_pow_add_eq, Nat.testBit_lt_two_pow ha]; rfl
      have hc : ∀ x, x < k → (2 ^ k + a).testBit x = a.testBit x := fun x hx => Nat.testBit_two_pow_add_gt hx a
      show g (psn z h (2 ^ k + a) k + (if (2 ^ k + a).testBit k = true then z (h k) else 0)) * (wgt y h (2 ^ k + a) k * (if (2 ^ k + a).testBit k = true then 100 - y (h k) else _)) = (100 - y (h k)) * (g (psn z h a k + z (h k)) * wgt y h a k) + 0 * 0
      rw [hb, if_pos rfl, if_pos rfl, psn_congr k hc, wgt_congr k hc, Nat.mul_zero, Nat.add_zero, ← Nat.mul_assoc, Nat.mul_comm]
    rw [e1, e2, ih g, ih (fun p => g (p + z (h k))), Nat.zero_mul, Nat.add_zero, Nat.add_zero]
    rfl
/-- Euclid's steps -/
def fb : Nat → Nat
  | 0 => 1
  | 1 => 1
  | k + 2 => fb (k + 1) + fb k
theorem fb80 : 10 ^ 16 < fb 80 := by decide +kernel
theorem fb_st {a b k : Nat} (hba : b ≤ a) (hb : 0 < b) (h : b < fb (k + 1) ∨ a < fb (k + 2)) : a % b < fb k ∨ b < fb (k + 1) := by
  by_cases c : b < fb (k + 1)
  · exact Or.inr c
  · left
    have h2 : a < fb (k + 1) + fb k := by
      rcases h with h | h
      · exact absurd h c
      · exact h
    have : a % b ≤ a - b := by rw [Nat.mod_eq_sub_mod hba]; exact Nat.mod_le _ _
    omega
theorem fb_0 {a b : Nat} (hba : b ≤ a) (h : b < fb 0 ∨ a < fb 1) : b = 0 := by
  have e0 : fb 0 = 1 := rfl
  have e1 : fb 1 = 1 := rfl
  rw [e0, e1] at h
  omega
theorem euclC (N : Nat) (hN : 2000 < N) {a b : Nat} (ha : a ≤ 10 ^ 16) (hb : b ≤ a) : f_X11_commonDivisor N (nL a) (nL b) = some (nL (Nat.gcd a b)) := by
  unfold f_X11_commonDivisor
  obtain ⟨r, h1, h2⟩ := itr1 (A := fun q : Int64 × Int64 × Int32 => f_X11_commonDivisor_s9 N q.1 q.2.1 q.2.2) (fun k s => ∃ a' b' i, s = (nL a', nL b', nI i) ∧ a' ≤ 10 ^ 16 ∧ b' ≤ a' ∧ Nat.gcd a' b' = Nat.gcd a b ∧ i + k ≤ 80 ∧ (b' < fb k ∨ a' < fb (k + 1))) (fun r => r = nL (Nat.gcd a b)) (by
    intro k s hR
    obtain ⟨a', b', i, rfl, f1, f2, f3, f4, f5⟩ := hR
    simp only
    unfold f_X11_commonDivisor_s9
    rw [if_neg (show ¬ (100 : Int32) ≤ nI (i) from nI_ge (a := i) (b := 100) (by omega) (by omega))]
    rcases Nat.eq_zero_or_pos b' with hz | hp
    · right
      subst hz
      rw [if_pos (show nL 0 = 0 from rfl), pu_inrO]
      exact ⟨_, rfl, by rw [← f3, Nat.gcd_zero_right]⟩
    · left
      obtain ⟨j, rfl⟩ : ∃ j, k = j + 1 := by
        rcases Nat.eq_zero_or_pos k with hk | hk
        · subst hk; exact absurd (fb_0 f2 f5) (by omega)
        · exact ⟨k - 1, by omega⟩
      rw [if_neg (nL_ne0 hp (by omega)), pu_gnzL (nL_ne0 hp (by omega)), nL_rem (by omega) hp (by omega), nI_1]
      refine ⟨j, _, by omega, rfl, b', a' % b', i + 1, rfl, by omega, Nat.le_of_lt (Nat.mod_lt _ hp), ?_, by omega, fb_st f2 hp f5⟩
      rw [← f3, Nat.gcd_comm a' b', Nat.gcd_rec b' a', Nat.gcd_comm]) N 80 (nL a, nL b, 0) (by omega) ⟨a, b, 0, rfl, ha, hb, rfl, by omega, Or.inl (Nat.lt_of_le_of_lt (Nat.le_trans hb ha) fb80)⟩
  rw [h1, h2]
theorem euclX (N : Nat) (hN : 2000 < N) {a b : Nat} (ha : a ≤ 10 ^ 16) (hb : b ≤ a) (h0 : 0 < a) : f_X12_common N (nL b) (nL a) = some (nL (Nat.gcd a b)) := by
  unfold f_X12_common
  have step : ∀ a' b', 0 < b' → a' ≤ 10 ^ 16 → b' ≤ 10 ^ 16 → f_X12_common_s6 N (nL a') (nL b') = some (.inl (nL b', nL (a' % b'))) := by
    intro a' b' hp h1 h2
    unfold f_X12_common_s6
    rw [if_neg (nL_ne0 hp (by omega)), pu_gnzL (nL_ne0 hp (by omega)), nL_rem (by omega) hp (by omega)]
  rw [itr_s (A := fun q : Int64 × Int64 => f_X12_common_s6 N q.1 q.2) (s := (nL b, nL a)) (by omega) (step b a h0 (by omega) ha)]
  obtain ⟨r, h1, h2⟩ := itr1 (A := fun q : Int64 × Int64 => f_X12_common_s6 N q.1 q.2) (fun k s => ∃ a' b', s = (nL a', nL b') ∧ a' ≤ 10 ^ 16 ∧ b' ≤ a' ∧ Nat.gcd a' b' = Nat.gcd a b ∧ (b' < fb k ∨ a' < fb (k + 1))) (fun r => r = nL (Nat.gcd a b)) (by
    intro k s hR
    obtain ⟨a', b', rfl, f1, f2, f3, f5⟩ := hR
    simp only
    rcases Nat.eq_zero_or_pos b' with hz | hp
    · right
      subst hz
      unfold f_X12_common_s6
      rw [if_pos (show nL 0 = 0 from rfl), pu_inrO]
      exact ⟨_, rfl, by rw [← f3, Nat.gcd_zero_right]⟩
    · left
      obtain ⟨j, rfl⟩ : ∃ j, k = j + 1 := by
        rcases Nat.eq_zero_or_pos k with hk | hk
        · subst hk; exact absurd (fb_0 f2 f5) (by omega)
        · exact ⟨k - 1, by omega⟩
      rw [step a' b' hp f1 (by omega)]
      refine ⟨j, _, by omega, rfl, b', a' % b', rfl, by omega, Nat.le_of_lt (Nat.mod_lt _ hp), ?_, fb_st f2 hp f5⟩
      rw [← f3, Nat.gcd_comm a' b', Nat.gcd_rec b' a', Nat.gcd_comm]) (N - 1) 80 (nL a, nL (b % a)) (by omega) ⟨a, b % a, rfl, ha, Nat.le_of_lt (Nat.mod_lt _ h0), by rw [Nat.gcd_comm a (b % a), ← Nat.gcd_rec], Or.inl (Nat.lt_of_le_of_lt (Nat.le_trans (Nat.le_of_lt (Nat.mod_lt _ h0)) ha) fb80)⟩
  rw [h1, h2]
/-- one party more -/
theorem mayR (N : Nat) (hN : 2000 < N) (X : VV) {B : Nat → Int64} {z y h : Nat → Nat} {k : Nat} (hz1 : 1 ≤ z (h k)) (hz9 : z (h k) ≤ 9) (hy : y (h k) ≤ 100) (hB : ∀ n, n ≤ 72 → B n = nL (cw z y h k n)) : ∃ B', f_X11_mayCome N X B (nI (z (h k))) (nI (y (h k))) = some B' ∧ ∀ n, n ≤ 72 → B' n = nL (cw z y h (k + 1) n) := by
  unfold f_X11_mayCome
  refine itr1 (A := fun q : Int32 × (Nat → Int64) => f_X11_mayCome_s3 N X q.2 (nI (z (h k))) (nI (y (h k))) q.1) (fun x s => ∃ j, x = j ∧ j ≤ 73 ∧ s.1 = nI j - 1 ∧ ∀ n, n ≤ 72 → s.2 n = nL (if j ≤ n then cw z y h (k + 1) n else cw z y h k n)) (fun B' => ∀ n, n ≤ 72 → B' n = nL (cw z y h (k + 1) n)) ?_ N 73 (72, B) (by omega) ⟨73, rfl, by omega, by show (72 : Int32) = nI 73 - 1; decide, fun n hn => by rw [if_neg (by omega)]; exact hB n hn⟩
  intro x s hR
  obtain ⟨s1, C⟩ := s
  obtain ⟨j, rfl, hj, f1, f2⟩ := hR
  simp only at f1 f2
  subst f1
  simp only
  unfold f_X11_mayCome_s3 f_X11_mayCome_b33 f_X11_mayCome_b34
  rcases Nat.eq_zero_or_pos x with h0 | hp
  · right
    subst h0
    rw [if_pos (show nI 0 - 1 < 0 from by decide), pu_inrO]
    exact ⟨_, rfl, fun n hn => by rw [f2 n hn, if_pos (by omega)]⟩
  · left
    obtain ⟨i, rfl⟩ : ∃ i, x = i + 1 := ⟨x - 1, by omega⟩
    have e100 : (100 : Int32) - nI (y (h k)) = nI (100 - y (h k)) := pk_sub (a := 100) hy
    have ci := f2 i (by omega)
    rw [if_neg (by omega)] at ci
    rw [nI_pred, if_neg (nI_pos (show i < 2 ^ 31 by omega)), if_neg (nI_pos (show z (h k) < 2 ^ 31 by omega)), e100, nL_i (show y (h k) < 2 ^ 31 by omega), nL_i (show 100 - y (h k) < 2 ^ 31 by omega), idx_m]
    have fin : ∀ q, q = (if z (h k) ≤ i then cw z y h k (i - z (h k)) * (100 - y (h k)) else 0) → ∃ m' t, m' < i + 1 ∧ gin (nI i) 73 (gin (nI i) 73 (some (Sum.inl (nI i - 1, vp_updL C (nI i).toNatClampNeg (C (nI i).toNatClampNeg * nL (y (h k)) + nL q))) : Option ((Int32 × (Nat → Int64)) ⊕ (Nat → Int64)))) = some (.inl t) ∧ (∃ j, m' = j ∧ j ≤ 73 ∧ t.1 = nI j - 1 ∧ ∀ n, n ≤ 72 → t.2 n = nL (if j ≤ n then cw z y h (k + 1) n else cw z y h k n)) := by
      intro q hq
      rw [pu_gin (show i < 73 by omega) (show 73 < 2 ^ 31 by omega), pu_gin (show i < 73 by omega) (show 73 < 2 ^ 31 by omega), nI_clamp (show i < 2 ^ 31 by omega)]
      refine ⟨i, _, by omega, rfl, i, rfl, by omega, rfl, fun n hn => ?_⟩
      show vp_updL C i _ n = _
      rw [pu_updL]
      by_cases e : n = i
      · subst e
        rw [if_pos rfl, if_pos (Nat.le_refl n), ci, nL_mul, nL_add, hq]; rfl
      · rw [if_neg e, f2 n hn]
        by_cases c : i ≤ n
        · rw [if_pos c, if_pos (by omega)]
        · rw [if_neg c, if_neg (by omega)]
    by_cases c : z (h k) ≤ i
    · have ez := f2 (i - z (h k)) (by omega)
      rw [if_neg (by omega)] at ez
      rw [if_neg (nI_nlt c (by omega)), pk_sub c, pu_gin (show i - z (h k) < 73 by omega) (show 73 < 2 ^ 31 by omega), nI_clamp (show i - z (h k) < 2 ^ 31 by omega), ez, nL_mul]
      exact fin _ (by rw [if_pos c])
    · rw [if_pos (nI_lt (by omega) (by omega))]
      exact fin 0 (by rw [if_neg c])
theorem tb_bt {a j : Nat} (hj : j < 31) : bt (nI a) j = a.testBit j := by
  show (BitVec.ofNat 32 a).getLsbD j = _
  rw [BitVec.getLsbD_ofNat, decide_eq_true (by omega : j < 32), Bool.true_and]
theorem shl8 : ∀ k, k ≤ 8 → (1 : Int32) <<< (nI k &&& 31) = nI (2 ^ k) := by decide +kernel
def ind (s n : Nat) : Nat := if s < n then 1 else 0
theorem psn_le {z h : Nat → Nat} {a : Nat} (hz : ∀ x, z x ≤ 9) : ∀ k, psn z h a k ≤ 9 * k := by
  intro k
  induction k with
  | zero => exact Nat.le_refl 0
  | succ k ih =>
    show psn z h a k + (if a.testBit k = true then z (h k) else 0) ≤ 9 * (k + 1)
    have := hz (h k)
    by_cases c : a.testBit k = true
    · rw [if_pos c]; omega
    · rw [if_neg c]; omega
/-- the class's tail: what is above the seats -/
theorem crowdC (N : Nat) (hN : 2000 < N) (X P L S Wa : VV) {B : Nat → Int64} {z y h : Nat → Nat} {k seats : Nat} (x2 : Int32) (hk : k ≤ 8) (hz9 : ∀ x, z x ≤ 9) (hy : ∀ x, y x ≤ 100) (hB : ∀ n, n ≤ 72 → B n = nL (cw z y h k n)) (hs : seats ≤ 99) (h6 : P.2.1 6 0 = nI seats) :
    itr (fun q : Int64 × Int32 × VV × (Nat → Int64) => f_X11_crowd_s150 N X P q.2.2.1 S Wa q.2.2.2 x2 (nL (100 ^ k)) q.1 q.2.1) N (0, jmax (P.2.1 6 0 + 1) 0, L, B) = some ((if x2 = 0 then nL (Wt z y h k (ind seats)) else nL (100 ^ k)) / nL (Nat.gcd (100 ^ k) (Wt z y h k (ind seats))), L, B) := by
  have hW : Wt z y h k (ind seats) ≤ 100 ^ k := Wt_le z y h hy k _ (fun p => by unfold ind; split <;> omega)
  have h100 : 100 ^ k ≤ 10 ^ 16 := Nat.le_trans (Nat.pow_le_pow_right (by omega) hk) (by decide)
  have hpos : 0 < 100 ^ k := Nat.pow_pos (by omega)
  have hsz : Sm (fun x => z (h x)) k < 73 := by
    have : ∀ j, Sm (fun x => z (h x)) j ≤ 9 * j := by
      intro j
      induction j with
      | zero => exact Nat.le_refl 0
      | succ j ih => have := hz9 (h j); show Sm (fun x => z (h x)) j + z (h j) ≤ 9 * (j + 1); omega
    have := this k; omega
  have hsum : Sm (fun n => ind seats n * cw z y h k n) 73 = Wt z y h k (ind seats) := cw_Wt z y h k 73 _ hsz
  have ej : jmax (P.2.1 6 0 + 1) 0 = nI (seats + 1) := by
    rw [h6, nI_1]; unfold jmax; rw [if_neg (nI_pos (show seats + 1 < 2 ^ 31 by omega))]
  rw [ej]
  obtain ⟨r, g1, g2⟩ := itr1 (A := fun q : Int64 × Int32 × VV × (Nat → Int64) => f_X11_crowd_s150 N X P q.2.2.1 S Wa q.2.2.2 x2 (nL (100 ^ k)) q.1 q.2.1) (fun x s => ∃ j, x = 73 - j ∧ seats + 1 ≤ j ∧ s = (nL (Sm (fun n => ind seats n * cw z y h k n) j), nI j, L, B) ∧ (j ≤ 73 ∨ j = seats + 1)) (fun r => r = ((if x2 = 0 then nL (Wt z y h k (ind seats)) else nL (100 ^ k)) / nL (Nat.gcd (100 ^ k) (Wt z y h k (ind seats))), L, B)) (by
    intro x s hR
    obtain ⟨j, hx, hj1, rfl, hj2⟩ := hR
    simp only
    unfold f_X11_crowd_s150 f_X11_crowd_b193
    rcases Nat.lt_or_ge j 73 with hlt | hge
    · left
      rw [if_neg (show ¬ (72 : Int32) < nI j from nI_nlt (a := 72) (by omega) (by omega)), pu_gin (show j < 73 by omega) (show 73 < 2 ^ 31 by omega), nI_clamp (show j < 2 ^ 31 by omega), hB j (by omega), nL_add, nI_1]
      refine ⟨73 - (j + 1), _, by omega, rfl, j + 1, rfl, by omega, ?_, Or.inl (by omega)⟩
      show (nL (Sm (fun n => ind seats n * cw z y h k n) j + cw z y h k j), nI (j + 1), L, B) = (nL (Sm (fun n => ind seats n * cw z y h k n) j + ind seats j * cw z y h k j), nI (j + 1), L, B)
      rw [show ind seats j = 1 from if_pos (by omega), Nat.one_mul]
    · right
      have e : Sm (fun n => ind seats n * cw z y h k n) j = Wt z y h k (ind seats) := by
        rw [← hsum]
        rcases hj2 with h | h
        · rw [show j = 73 by omega]
        · rw [Sm_0 j (fun i hi => by rw [show ind seats i = 0 from if_neg (by omega), Nat.zero_mul]), Sm_0 73 (fun i hi => by rw [show ind seats i = 0 from if_neg (by omega), Nat.zero_mul])]
      have hg : 0 < Nat.gcd (100 ^ k) (Wt z y h k (ind seats)) := Nat.gcd_pos_of_pos_left _ hpos
      have hg2 : Nat.gcd (100 ^ k) (Wt z y h k (ind seats)) ≤ 100 ^ k := Nat.gcd_le_left _ hpos
      rw [if_pos (show (72 : Int32) < nI j from nI_lt (a := 72) (by omega) (by omega)), e, euclC N hN h100 hW, pu_bnd, if_neg (nL_nle hg (by omega)), if_neg (nL_nle hg (by omega)), pu_gnzL (nL_ne0 hg (by omega)), pu_gnzL (nL_ne0 hg (by omega))]
      by_cases c : x2 = 0
      · rw [if_pos c, if_pos c, pu_inrO]; exact ⟨_, rfl, rfl⟩
      · rw [if_neg c, if_neg c, pu_inrO]; exact ⟨_, rfl, rfl⟩) N (73 - (seats + 1)) (0, nI (seats + 1), L, B) (by omega) ⟨seats + 1, rfl, Nat.le_refl _, by rw [Sm_0 (seats + 1) (fun i hi => by rw [show ind seats i = 0 from if_neg (by omega), Nat.zero_mul])]; rfl, Or.inr rfl⟩
  rw [g1, g2]
/-- the reference's tail: all ways, one by one -/
theorem crowdX (N : Nat) (hN : 2000 < N) {n m : Nat} {X : VV} {T : Nat → Int32} {R P L S Im Wa Wb Z U D E v w : VV} {z y h : Nat → Nat} {k t seats : Nat} (x2 : Int32) (h0 : INV0 n m X T R P L S Im Wa Wb Z U D E v) (ht : t < m) (hk : k ≤ 8) (hh : ∀ x, x < k → h x < n) (hz9 : ∀ x, z x ≤ 9) (hy : ∀ x, y x ≤ 100) (hzs : ∀ p, p < n → v.2.1 5 p = nI (z p)) (hms : ∀ p, p < n → ∀ v', KV v v' → ∃ v2, f_X12_missOf N v' 0 (nI p) (nI t) 0 = some (nI (y p), v2) ∧ wkG v' v2) (hs : seats ≤ 99) (h31 : v.2.1 3 1 = nI seats) (hw : KV v w) (h63 : ∀ x, x < k → w.2.1 63 x = nI (h x)) :
    ∃ w', itr (fun q : Int64 × Int32 × VV => f_X12_crowd_s90 N q.2.2 (nI t) x2 (nI k) (nL (100 ^ k)) q.1 q.2.1) N (0, 0, w) = some ((if x2 = 0 then nL (Wt z y h k (ind seats)) else nL (100 ^ k)) / nL (Nat.gcd (100 ^ k) (Wt z y h k (ind seats))), w') ∧ KV v w' := by
  have hn := PR_n h0.1
  have hW : Wt z y h k (ind seats) ≤ 100 ^ k := Wt_le z y h hy k _ (fun p => by unfold ind; split <;> omega)
  have h100 : 100 ^ k ≤ 10 ^ 16 := Nat.le_trans (Nat.pow_le_pow_right (by omega) hk) (by decide)
  have hpos : 0 < 100 ^ k := Nat.pow_pos (by omega)
  have h2k : 2 ^ k ≤ 256 := Nat.le_trans (Nat.pow_le_pow_right (by omega) hk) (by decide)
  -- one way
  have inner : ∀ (a : Nat) (acc : Int64) (w : VV), a < 256 → KV v w → (∀ x, x < k → w.2.1 63 x = nI (h x)) → ∃ w', itr (fun q : Int32 × Int64 × Int32 × VV => f_X12_crowd_s107 N q.2.2.2 (nI t) x2 (nI k) (nL (100 ^ k)) acc (nI a) q.1 q.2.1 q.2.2.1) N (0, 1, 0, w) = some (.inl (acc + nL (ind seats (psn z h a k) * wgt y h a k), nI (a + 1), w')) ∧ KV v w' ∧ ∀ x, x < k → w'.2.1 63 x = nI (h x) := by
    intro a acc w ha hw h63
    obtain ⟨r, g1, g2⟩ := itr1 (A := fun q : Int32 × Int64 × Int32 × VV => f_X12_crowd_s107 N q.2.2.2 (nI t) x2 (nI k) (nL (100 ^ k)) acc (nI a) q.1 q.2.1 q.2.2.1) (fun x s => ∃ j w', x = k - j ∧ j ≤ k ∧ s = (nI (psn z h a j), nL (wgt y h a j), nI j, w') ∧ KV v w' ∧ ∀ x, x < k → w'.2.1 63 x = nI (h x)) (fun r => ∃ w', r = .inl (acc + nL (ind seats (psn z h a k) * wgt y h a k), nI (a + 1), w') ∧ KV v w' ∧ ∀ x, x < k → w'.2.1 63 x = nI (h x)) (by
      intro x s hR
      obtain ⟨j, w', hx, hj, rfl, f1, f2⟩ := hR
      simp only
      unfold f_X12_crowd_s107 f_X12_crowd_b145 f_X12_crowd_b166 f_X12_crowd_b192 f_X12_crowd_b219
      rcases Nat.lt_or_ge j k with hlt | hge
      · left
        have hp := hh j hlt
        obtain ⟨v2, m1, m2⟩ := hms (h j) hp w' f1
        have e63 : ∀ x, x < k → v2.2.1 63 x = nI (h x) := fun x hx => by rw [m2.1]; exact f2 x hx
        have e5 : v2.2.1 5 (h j) = nI (z (h j)) := by rw [m2.1, f1.2.1 5 (by omega)]; exact hzs _ hp
        have yj := hy (h j)
        have e100 : (100 : Int32) - nI (y (h j)) = nI (100 - y (h j)) := pk_sub (a := 100) (hy (h j))
        rw [if_neg (nI_ge hlt (show k < 2 ^ 31 by omega)), pu_gin (show j < 8 by omega) (show 8 < 2 ^ 31 by omega), nI_clamp (show j < 2 ^ 31 by omega), f2 j hlt, m1, pu_bnd, pu_bit (nI a) (show j < 31 by omega), tb_bt (show j < 31 by omega)]
        dsimp only
        by_cases tb : a.testBit j = true
        · rw [if_pos tb, if_pos rfl, if_neg (by decide), if_neg (by decide), pu_gin (show j < 8 by omega) (show 8 < 2 ^ 31 by omega), e63 j hlt, pu_gin (show h j < 16 by omega) (show 16 < 2 ^ 31 by omega), nI_clamp (show h j < 2 ^ 31 by omega), e5, e100, nL_i (by omega), nL_mul, nI_add, nI_1]
          refine ⟨k - (j + 1), _, by omega, rfl, j + 1, v2, rfl, hlt, ?_, f1.trans (KV_wk m2), e63⟩
          show (nI (psn z h a j + z (h j)), nL (wgt y h a j * (100 - y (h j))), nI (j + 1), v2) = (nI (psn z h a j + (if a.testBit j = true then z (h j) else 0)), nL (wgt y h a j * (if a.testBit j = true then 100 - y (h j) else y (h j))), nI (j + 1), v2)
          rw [if_pos tb, if_pos tb]
        · rw [if_neg tb, if_neg (by decide), if_pos rfl, if_pos rfl, nL_i (by omega), nL_mul, Int32.add_zero, nI_1]
          refine ⟨k - (j + 1), _, by omega, rfl, j + 1, v2, rfl, hlt, ?_, f1.trans (KV_wk m2), e63⟩
          show (nI (psn z h a j), nL (wgt y h a j * y (h j)), nI (j + 1), v2) = (nI (psn z h a j + (if a.testBit j = true then z (h j) else 0)), nL (wgt y h a j * (if a.testBit j = true then 100 - y (h j) else y (h j))), nI (j + 1), v2)
          simp only [if_neg tb, Nat.add_zero]
      · right
        have : j = k := by omega
        subst this
        have e3 : w'.2.1 3 1 = nI seats := by rw [f1.2.1 3 (by omega)]; exact h31
        have hp := psn_le (h := h) (a := a) hz9 j
        rw [if_pos (nI_le (Nat.le_refl j) (show j < 2 ^ 31 by omega)), e3, nI_1]
        unfold ind
        by_cases c : seats < psn z h a j
        · rw [if_neg (nI_ge c (by omega)), if_pos c, pu_inrO, Nat.one_mul]; exact ⟨_, rfl, w', rfl, f1, f2⟩
        · rw [if_pos (nI_le (by omega) (by omega)), if_neg c, pu_inrO, Nat.zero_mul, show nL 0 = 0 from rfl, Int64.add_zero]; exact ⟨_, rfl, w', rfl, f1, f2⟩) N k (0, 1, 0, w) (by omega) ⟨0, w, rfl, by omega, rfl, hw, h63⟩
    obtain ⟨w', rfl, g3, g4⟩ := g2
    exact ⟨w', g1, g3, g4⟩
  obtain ⟨r, g1, g2⟩ := itr1 (A := fun q : Int64 × Int32 × VV => f_X12_crowd_s90 N q.2.2 (nI t) x2 (nI k) (nL (100 ^ k)) q.1 q.2.1) (fun x s => ∃ a w', x = 2 ^ k - a ∧ a ≤ 2 ^ k ∧ s = (nL (Sm (fun a => ind seats (psn z h a k) * wgt y h a k) a), nI a, w') ∧ KV v w' ∧ ∀ x, x < k → w'.2.1 63 x = nI (h x)) (fun r => ∃ w', r = ((if x2 = 0 then nL (Wt z y h k (ind seats)) else nL (100 ^ k)) / nL (Nat.gcd (100 ^ k) (Wt z y h k (ind seats))), w') ∧ KV v w') (by
    intro x s hR
    obtain ⟨a, w', hx, ha, rfl, f1, f2⟩ := hR
    simp only
    unfold f_X12_crowd_s90
    rw [shl8 k hk]
    rcases Nat.lt_or_ge a (2 ^ k) with hlt | hge
    · left
      obtain ⟨w2, i1, i2, i3⟩ := inner a (nL (Sm (fun a => ind seats (psn z h a k) * wgt y h a k) a)) w' (by omega) f1 f2
      rw [if_neg (nI_ge hlt (show 2 ^ k < 2 ^ 31 by omega)), i1, nL_add]
      exact ⟨2 ^ k - (a + 1), _, by omega, rfl, a + 1, w2, rfl, hlt, rfl, i2, i3⟩
    · right
      have ea : a = 2 ^ k := by omega
      have hg : 0 < Nat.gcd (100 ^ k) (Wt z y h k (ind seats)) := Nat.gcd_pos_of_pos_left _ hpos
      have hg2 : Nat.gcd (100 ^ k) (Wt z y h k (ind seats)) ≤ 100 ^ k := Nat.gcd_le_left _ hpos
      rw [if_pos (nI_le hge (by omega)), ea, set_Wt, euclX N hN h100 hW hpos, pu_bnd, pu_gnzL (nL_ne0 hg (by omega)), pu_gnzL (nL_ne0 hg (by omega))]
      by_cases c : x2 = 0
      · rw [if_pos c, if_pos c, pu_inrO]; exact ⟨_, rfl, w', rfl, f1⟩
      · rw [if_neg c, if_neg c, pu_inrO]; exact ⟨_, rfl, w', rfl, f1⟩) N (2 ^ k) (0, 0, w) (Nat.lt_of_le_of_lt h2k (by omega)) ⟨0, w, rfl, Nat.zero_le _, rfl, hw, h63⟩
  obtain ⟨w', rfl, g3⟩ := g2
  exact ⟨w', g1, g3⟩
theorem st_crowd (N : Nat) (hN : 2000 < N) : ST_crowd N INV := by
  intro cv T B v a1 a2 hI
  obtain ⟨n, m, h⟩ := hI
  have h' := inv_kv h (LF.refl _) (KV_0 v)
  obtain ⟨hP, hS, hT, hIm, hWa, hWb, hRf, hH, hU, hRd, hG, hE⟩ := id h'
  have hn := PR_n hP
  have hm := PR_m hP
  unfold f_X11_crowd f_X12_crowd f_X11_crowd_b20 f_X12_crowd_b22
  rcases hasS hP a1 with ⟨t, ht, rfl, e1, e2⟩ | ⟨e1, e2⟩
  · simp only [e1, e2, pu_bnd, n10, ↓reduceIte]
    by_cases c1 : a2 < 0
    · simp only [if_pos c1]; exact ⟨_, _, _, _, rfl, rfl, n, m, h'⟩
    by_cases c2 : a2 ≤ 1
    · simp only [if_neg c1, if_pos c2]
      obtain ⟨yy, yy1, yy2⟩ := missU N (by omega) h'
      obtain ⟨seats, hs1, hs9, hse⟩ := (PR_sF hP).1
      -- sizes and misses as plain functions
      obtain ⟨z, hz⟩ : ∃ z : Nat → Nat, z = fun p => if p < n then ((si v 0 0).2.1 5 p).toNatClampNeg else 1 := ⟨_, rfl⟩
      obtain ⟨y, hy⟩ : ∃ y : Nat → Nat, y = fun p => if p < n then yy p t else 0 := ⟨_, rfl⟩
      have zb : ∀ p, (1 ≤ z p ∧ z p ≤ 9) ∧ (p < n → (si v 0 0).2.1 5 p = nI (z p)) := by
        intro p
        by_cases hp : p < n
        · obtain ⟨s, s1, s9, es⟩ := (PR_tB hP hp).1
          have ez : z p = s := by
            rw [hz]
            show (if p < n then ((si v 0 0).2.1 5 p).toNatClampNeg else 1) = s
            rw [if_pos hp, es, nI_clamp (by omega)]
          rw [ez]
          exact ⟨⟨s1, s9⟩, fun _ => es⟩
        · have ez : z p = 1 := by rw [hz]; exact if_neg hp
          rw [ez]
          exact ⟨by omega, fun h => absurd h hp⟩
      have yb : ∀ p, y p ≤ 100 := by
        intro p
        rw [hy]
        by_cases hp : p < n
        · simp only [if_pos hp]; exact yy1 p t hp ht
        · simp only [if_neg hp]; omega
      have yp : ∀ p, p < n → y p = yy p t := fun p hp => by rw [hy]; exact if_pos hp
      -- the class clears its row
      obtain ⟨B1, b1, b2⟩ : ∃ B1 : Nat → Int64, (∀ r, itr (fun q : Int64 × Int32 × VV × (Nat → Int64) => f_X11_crowd_s58 N (cv 0) (cv 6) q.2.2.1 (cv 8) (cv 12) q.2.2.2 (nI t) a2 q.1 q.2.1) N (1, 0, cv 7, B1) = some r → itr (fun q : Int32 × VV × (Nat → Int64) => f_X11_crowd_s26 N (cv 0) (cv 6) q.2.1 (cv 8) (cv 12) q.2.2 (nI t) a2 q.1) N (0, cv 7, B) = some r) ∧ ∀ n, n ≤ 72 → B1 n = nL (cw z y (fun _ => 0) 0 n) := by
        refine ⟨fun n => if n < 73 then nL (cw z y (fun _ => 0) 0 n) else B n, fun r hr => ?_, fun n hn => if_pos (by omega)⟩
        have := itrF (A := fun q : Int32 × VV × (Nat → Int64) => f_X11_crowd_s26 N (cv 0) (cv 6) q.2.1 (cv 8) (cv 12) q.2.2 (nI t) a2 q.1) 73 (fun i => (nI i, cv 7, fun n => if n < i then nL (cw z y (fun _ => 0) 0 n) else B n)) r (by
          intro i hi
          show f_X11_crowd_s26 N (cv 0) (cv 6) (cv 7) (cv 8) (cv 12) _ (nI t) a2 (nI i) = _
          unfold f_X11_crowd_s26 f_X11_crowd_b46
          have key : ∀ x : Int64, x = nL (cw z y (fun _ => 0) 0 i) → vp_updL (fun n => if n < i then nL (cw z y (fun _ => 0) 0 n) else B n) i x = fun n => if n < i + 1 then nL (cw z y (fun _ => 0) 0 n) else B n := by
            intro x ex
            funext q
            rw [pu_updL]
            by_cases e : q = i
            · rw [if_pos e, if_pos (by omega), ex, e]
            · rw [if_neg e]
              by_cases c : q < i
              · rw [if_pos c, if_pos (by omega)]
              · rw [if_neg c, if_neg (by omega)]
          rw [if_neg (show ¬ (72 : Int32) < nI i from nI_nlt (a := 72) (by omega) (by omega)), nI_1, pu_gin (show i < 73 by omega) (show 73 < 2 ^ 31 by omega), pu_gin (show i < 73 by omega) (show 73 < 2 ^ 31 by omega), nI_clamp (show i < 2 ^ 31 by omega)]
          by_cases c : i = 0
          · rw [if_pos (by rw [c]; rfl), key 1 (by rw [c]; rfl)]
          · rw [if_neg (show ¬ nI (i) = (0 : Int32) from fun hq9 => absurd ((nI_eq (a := i) (b := 0) (by omega) (by omega)).mp hq9) (by omega)), key 0 (by show (0 : Int64) = nL (if i = 0 then 1 else 0); rw [if_neg c]; rfl)]) (by
          show f_X11_crowd_s26 N (cv 0) (cv 6) (cv 7) (cv 8) (cv 12) _ (nI t) a2 (nI 73) = _
          unfold f_X11_crowd_s26
          rw [if_pos (show (72 : Int32) < nI 73 from by decide), hr, pu_inrO]) N 0 (by omega) (by omega)
        exact this
      -- both go through the parties
      obtain ⟨r, r', g1, g2, g3⟩ := itr2 (A := fun q : Int64 × Int32 × VV × (Nat → Int64) => f_X11_crowd_s58 N (cv 0) (cv 6) q.2.2.1 (cv 8) (cv 12) q.2.2.2 (nI t) a2 q.1 q.2.1) (B := fun q : Int32 × Int64 × Int32 × VV => f_X12_crowd_s34 N q.2.2.2 (nI t) a2 q.1 q.2.1 q.2.2.1) (fun x s s' => ∃ i k hh L2 w B2, x = n - i ∧ i ≤ n ∧ k ≤ i ∧ s = (nL (100 ^ k), nI i, L2, B2) ∧ s' = (nI k, nL (100 ^ k), nI i, w) ∧ (∀ x, x < k → hh x < n) ∧ (∀ x, x < k → w.2.1 63 x = nI (hh x)) ∧ (∀ n, n ≤ 72 → B2 n = nL (cw z y hh k n)) ∧ LF (cv 7) L2 ∧ KV (si v 0 0) w) (fun r r' => r.1 = r'.1 ∧ LF (cv 7) r.2.1 ∧ KV (si v 0 0) r'.2) (by
        intro x s s' hR
        obtain ⟨i, k, hh, L2, w, B2, hx, hi, hki, rfl, rfl, f1, f2, f3, f4, f5⟩ := hR
        simp only
        have e30 : w.2.1 3 0 = nI n := by rw [f5.2.1 3 (by omega)]; exact PR_v0 hP
        rcases Nat.lt_or_ge i n with hlt | hge
        · left
          have etk : w.2.1 37 i = (cv 8).2.1 2 i := RE_eq (inv_kv h' (LF.refl _) f5).2.1.1.2.1 (by omega) (by omega)
          unfold f_X11_crowd_s58 f_X12_crowd_s34 f_X11_crowd_b124 f_X12_crowd_b78
          rw [PR_P0 hP, e30, if_neg (nI_ge hlt (show n < 2 ^ 31 by omega)), if_neg (nI_ge hlt (show n < 2 ^ 31 by omega)), pu_gin (show i < 8 by omega) (show 8 < 2 ^ 31 by omega), pu_gin (show i < 184 by omega) (show 184 < 2 ^ 31 by omega), nI_clamp (show i < 2 ^ 31 by omega), etk]
          by_cases c : (cv 8).2.1 2 i = nI t
          · obtain ⟨L3, l1, l2⟩ := (yy2 i t hlt ht).1 L2 f4
            obtain ⟨hh2, ehh⟩ : ∃ hh2 : Nat → Nat, hh2 = fun x => if x = k then i else hh x := ⟨_, rfl⟩
            have hk2 : hh2 k = i := by rw [ehh]; exact if_pos rfl
            have hlow : ∀ x, x < k → hh x = hh2 x := fun x hx => by rw [ehh]; exact (if_neg (by omega)).symm
            obtain ⟨B3, m1, m2⟩ := mayR (k := k) (h := hh2) (z := z) (y := y) N hN (cv 0) (B := B2) (zb _).1.1 (zb _).1.2 (yb _) (fun n hn => by rw [f3 n hn, cw_congr k hlow])
            rw [hk2] at m1
            rw [if_pos c, if_pos c, tra0 hP hlt, pu_bnd, l1, pu_bnd, (zb i).2 hlt, ← yp i hlt, m1, pu_bnd, pu_gin (show k < 8 by omega) (show 8 < 2 ^ 31 by omega), nI_clamp (show k < 2 ^ 31 by omega), nI_1, nI_1, show (100 : Int64) = nL 100 from rfl, nL_mul, ← Nat.pow_succ]
            refine ⟨n - (i + 1), _, _, by omega, rfl, rfl, i + 1, k + 1, hh2, L3, _, B3, rfl, hlt, by omega, rfl, rfl, fun x hx => ?_, fun x hx => ?_, m2, l2, f5.trans (KV_sr 63 k _ (by omega) (by omega))⟩
            · by_cases e : x = k
              · rw [e, hk2]; exact hlt
              · rw [← hlow x (by omega)]; exact f1 x (by omega)
            · show upd (w.2.1 63) k (nI i) x = nI (hh2 x)
              by_cases e : x = k
              · rw [e, pk_us, hk2]
              · rw [pk_un e, ← hlow x (by omega)]; exact f2 x (by omega)
          · rw [if_neg c, if_neg c, nI_1]
            exact ⟨n - (i + 1), _, _, by omega, rfl, rfl, i + 1, k, hh, L2, w, B2, rfl, hlt, by omega, rfl, rfl, f1, f2, f3, f4, f5⟩
        · right
          have : i = n := by omega
          subst this
          obtain ⟨w', x1, x2⟩ := crowdX (seats := seats) (k := k) (z := z) (y := y) (h := hh) (t := t) N hN a2 h' ht (by omega) f1 (fun x => (zb x).1.2) yb (fun p hp => (zb p).2 hp) (fun p hp v' hv' => by rw [yp p hp]; exact (yy2 p t hp ht).2 v' hv') hs9 hse f5 f2
          have cl := crowdC (seats := seats) (k := k) (z := z) (y := y) (h := hh) N hN (cv 0) (cv 6) L2 (cv 8) (cv 12) a2 (by omega) (fun x => (zb x).1.2) yb f3 hs9 (by rw [(PR_sE hP).1]; exact hse)
          unfold f_X11_crowd_s58 f_X12_crowd_s34
          rw [PR_P0 hP, e30, if_pos (nI_le (Nat.le_refl i) (show i < 2 ^ 31 by omega)), if_pos (nI_le (Nat.le_refl i) (show i < 2 ^ 31 by omega)), cl, x1, pu_inrO, pu_inrO]
          exact ⟨_, _, rfl, rfl, rfl, f4, x2⟩) N n (1, 0, cv 7, B1) (0, 1, 0, si v 0 0) (by omega) ⟨0, 0, fun _ => 0, cv 7, si v 0 0, B1, rfl, by omega, by omega, rfl, rfl, fun x hx => by omega, fun x hx => by omega, b2, LF.refl _, KV.refl _⟩
      obtain ⟨r1, L', B'⟩ := r
      obtain ⟨r2, w⟩ := r'
      simp only at g3
      obtain ⟨rfl, q1, q2⟩ := g3
      exact ⟨_, _, _, _, b1 _ g1, g2, n, m, inv_kv h' q1 q2⟩
    · simp only [if_neg c1, if_neg c2]; exact ⟨_, _, _, _, rfl, rfl, n, m, h'⟩
  · simp only [e1, e2, pu_bnd, ↓reduceIte]; exact ⟨_, _, _, _, rfl, rfl, n, m, h'⟩
