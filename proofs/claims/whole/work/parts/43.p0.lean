def bt (x : Int32) (i : Nat) : Bool := x.toBitVec.getLsbD i
theorem b_ext {x y : Int32} (h : ∀ i, i < 32 → bt x i = bt y i) : x = y := Int32.toBitVec_inj.mp (BitVec.eq_of_getLsbD_eq (fun i hi => h i hi))
theorem b_or (x y : Int32) (i : Nat) : bt (x ||| y) i = (bt x i || bt y i) := by unfold bt; rw [Int32.toBitVec_or, BitVec.getLsbD_or]
theorem b_and (x y : Int32) (i : Nat) : bt (x &&& y) i = (bt x i && bt y i) := by unfold bt; rw [Int32.toBitVec_and, BitVec.getLsbD_and]
theorem b_xor (x y : Int32) (i : Nat) : bt (x ^^^ y) i = (bt x i ^^ bt y i) := by unfold bt; rw [Int32.toBitVec_xor, BitVec.getLsbD_xor]
theorem b_big {x : Int32} {i : Nat} (h : 32 ≤ i) : bt x i = false := BitVec.getLsbD_of_ge _ _ h
theorem b_255 (i : Nat) : bt 255 i = decide (i < 8) := by
  rcases Nat.lt_or_ge i 32 with h | h
  · exact (by decide +kernel : ∀ i, i < 32 → bt 255 i = decide (i < 8)) i h
  · rw [b_big h, decide_eq_false (by omega)]
theorem b_65535 (i : Nat) : bt 65535 i = decide (i < 16) := by
  rcases Nat.lt_or_ge i 32 with h | h
  · exact (by decide +kernel : ∀ i, i < 32 → bt 65535 i = decide (i < 16)) i h
  · rw [b_big h, decide_eq_false (by omega)]
theorem b_m1 : ∀ i, i < 32 → bt (-1) i = true := by decide +kernel
theorem b_0 (i : Nat) : bt 0 i = false := BitVec.getLsbD_zero
theorem s_l : ∀ n, n < 32 → ((nI n &&& 31).toBitVec.smod 32).toNat = n := by decide +kernel
theorem s_u : ∀ n, n < 32 → (((nI n).toUInt32 &&& Int32.toUInt32 31).toBitVec % 32).toNat = n := by decide +kernel
theorem b_shl (n : Nat) (hn : n < 32) (x : Int32) {i : Nat} (hi : i < 32) : bt (x <<< (nI n &&& 31)) i = (decide (n ≤ i) && bt x (i - n)) := by
  unfold bt
  rw [Int32.toBitVec_shiftLeft]
  show (x.toBitVec <<< ((nI n &&& 31).toBitVec.smod 32).toNat).getLsbD i = _
  rw [s_l n hn, BitVec.getLsbD_shiftLeft]
  rcases Nat.lt_or_ge i n with h | h
  · simp [h, Nat.not_le.mpr h]
  · simp [hi, h, Nat.not_lt.mpr h]
theorem b_ushr (n : Nat) (hn : n < 32) (x : Int32) (i : Nat) : bt ((x.toUInt32 >>> ((nI n).toUInt32 &&& Int32.toUInt32 31)).toInt32) i = bt x (n + i) := by
  show (x.toUInt32 >>> ((nI n).toUInt32 &&& Int32.toUInt32 31)).toBitVec.getLsbD i = x.toUInt32.toBitVec.getLsbD (n + i)
  rw [UInt32.toBitVec_shiftRight]
  show (x.toUInt32.toBitVec >>> (((nI n).toUInt32 &&& Int32.toUInt32 31).toBitVec % 32).toNat).getLsbD i = _
  rw [s_u n hn, BitVec.getLsbD_ushiftRight]
theorem b_sshr (n : Nat) (hn : n < 32) (x : Int32) {i : Nat} (hi : i < 32) : bt (x >>> (nI n &&& 31)) i = if n + i < 32 then bt x (n + i) else bt x 31 := by
  unfold bt
  rw [Int32.toBitVec_shiftRight]
  show (x.toBitVec.sshiftRight ((nI n &&& 31).toBitVec.smod 32).toNat).getLsbD i = _
  rw [s_l n hn, BitVec.getLsbD_sshiftRight, BitVec.msb_eq_getLsbD_last]
  simp [hi]
/-! The pure part: what the functions over plain values do. Base rows. -/
theorem pu_si1 (v : VV) (k q : Nat) (x : Int32) : (si v k x).1 q = if q = k then x else v.1 q := rfl
theorem pu_si2 (v : VV) (k : Nat) (x : Int32) : (si v k x).2 = v.2 := rfl
theorem pu_sr1 (v : VV) (k i : Nat) (x : Int32) : (sr v k i x).1 = v.1 := rfl
theorem pu_sr2 (v : VV) (k i q : Nat) (x : Int32) : (sr v k i x).2.1 q = if q = k then upd (v.2.1 k) i x else v.2.1 q := rfl
theorem pu_sr3 (v : VV) (k i : Nat) (x : Int32) : (sr v k i x).2.2 = v.2.2 := rfl
theorem pu_sj1 (v : VV) (k i : Nat) (x : Int64) : (sj v k i x).1 = v.1 := rfl
theorem pu_sj2 (v : VV) (k i : Nat) (x : Int64) : (sj v k i x).2.1 = v.2.1 := rfl
theorem pu_sj3 (v : VV) (k i q : Nat) (x : Int64) : (sj v k i x).2.2 q = if q = k then vp_updL (v.2.2 k) i x else v.2.2 q := rfl
theorem pu_sw1 (v : VV) (k : Nat) (f : Nat → Int32) : (sw v k f).1 = v.1 := rfl
theorem pu_sw2 (v : VV) (k q : Nat) (f : Nat → Int32) : (sw v k f).2.1 q = if q = k then f else v.2.1 q := rfl
theorem pu_sw3 (v : VV) (k : Nat) (f : Nat → Int32) : (sw v k f).2.2 = v.2.2 := rfl
theorem pu_upd (f : Nat → Int32) (k j : Nat) (x : Int32) : upd f k x j = if j = k then x else f j := rfl
theorem pu_updL (f : Nat → Int64) (k j : Nat) (x : Int64) : vp_updL f k x j = if j = k then x else f j := rfl
theorem pu_bnd {α β : Type} (a : α) (k : α → Option β) : bnd (some a) k = k a := rfl
theorem pu_inrO {σ ρ : Type} (r : ρ) : inrO (σ := σ) (some r) = some (.inr r) := rfl
theorem pu_gin {α : Type} {k n : Nat} (h : k < n) (hn : n < 2 ^ 31) (o : Option α) : gin (nI k) n o = o := by
  unfold gin
  rw [if_pos (nI_in h hn)]
theorem pu_gnz {α : Type} {y : Int32} (h : ¬ y = 0) (o : Option α) : gnz y o = o := by
  unfold gnz
  rw [if_neg h]
theorem pu_gnzL {α : Type} {y : Int64} (h : ¬ y = 0) (o : Option α) : gnzL y o = o := by
  unfold gnzL
  rw [if_neg h]
theorem pu_8 (c p : Nat) : 8 * nI c + nI p = nI (8 * c + p) := by
  show nI 8 * nI c + nI p = _
  rw [pk_mul, nI_add]
theorem pu_3 (c p : Nat) : 3 * nI c + nI p = nI (3 * c + p) := by
  show nI 3 * nI c + nI p = _
  rw [pk_mul, nI_add]
/-- two loops side by side, turn by turn -/
theorem itr2 {σ ρ σ' ρ' : Type} {A : σ → Option (σ ⊕ ρ)} {B : σ' → Option (σ' ⊕ ρ')} (R : Nat → σ → σ' → Prop) (Q : ρ → ρ' → Prop)
    (h : ∀ m s s', R m s s' → (∃ m' t t', m' < m ∧ A s = some (.inl t) ∧ B s' = some (.inl t') ∧ R m' t t') ∨ (∃ r r', A s = some (.inr r) ∧ B s' = some (.inr r') ∧ Q r r')) :
    ∀ n m s s', m < n → R m s s' → ∃ r r', itr A n s = some r ∧ itr B n s' = some r' ∧ Q r r' := by
  intro n
  induction n with
  | zero => intro m s s' hm; omega
  | succ n ih =>
    intro m s s' hm hR
    rcases h m s s' hR with ⟨m', t, t', hlt, ha, hb, hR'⟩ | ⟨r, r', ha, hb, hq⟩
    · obtain ⟨r, r', h1, h2, h3⟩ := ih m' t t' (by omega) hR'
      exact ⟨r, r', by unfold itr; rw [ha]; exact h1, by unfold itr; rw [hb]; exact h2, h3⟩
    · exact ⟨r, r', by unfold itr; rw [ha], by unfold itr; rw [hb], hq⟩
/-- one loop -/
theorem itr1 {σ ρ : Type} {A : σ → Option (σ ⊕ ρ)} (R : Nat → σ → Prop) (Q : ρ → Prop)
    (h : ∀ m s, R m s → (∃ m' t, m' < m ∧ A s = some (.inl t) ∧ R m' t) ∨ (∃ r, A s = some (.inr r) ∧ Q r)) :
    ∀ n m s, m < n → R m s → ∃ r, itr A n s = some r ∧ Q r := by
  intro n
  induction n with
  | zero => intro m s hm; omega
  | succ n ih =>
    intro m s hm hR
    rcases h m s hR with ⟨m', t, hlt, ha, hR'⟩ | ⟨r, ha, hq⟩
    · obtain ⟨r, h1, h3⟩ := ih m' t (by omega) hR'
      exact ⟨r, by unfold itr; rw [ha]; exact h1, h3⟩
    · exact ⟨r, by unfold itr; rw [ha], hq⟩
/-- a loop that counts up to e: its state by the number of turns -/
theorem itrF {σ ρ : Type} {A : σ → Option (σ ⊕ ρ)} (e : Nat) (S : Nat → σ) (r : ρ)
    (hs : ∀ i, i < e → A (S i) = some (.inl (S (i + 1)))) (hx : A (S e) = some (.inr r)) :
    ∀ n i, i ≤ e → e - i < n → itr A n (S i) = some r := by
  intro n
  induction n with
  | zero => intro i _ h; omega
  | succ n ih =>
    intro i hi hn
    rcases Nat.lt_or_ge i e with h | h
    · unfold itr; rw [hs i h]; exact ih (i + 1) h (by omega)
    · have : i = e := by omega
      subst this
      unfold itr; rw [hx]
/-- a row of n places lies in another one, from o on -/
def RE (o n : Nat) (f g : Nat → Int32) : Prop := ∀ i, i < n → f i = g (o + i)
theorem RE_upd {o n : Nat} {f g : Nat → Int32} (h : RE o n f g) {k k' : Nat} {x y : Int32} (hk : k' = o + k) (hx : x = y) : RE o n (upd f k x) (upd g k' y) := by
  intro i hi
  subst hk hx
  rw [pu_upd, pu_upd]
  by_cases e : i = k
  · rw [if_pos e, if_pos (by omega)]
  · rw [if_neg e, if_neg (by omega)]; exact h i hi
theorem RE_out {o n : Nat} {f g : Nat → Int32} (h : RE o n f g) {k : Nat} {y : Int32} (hk : k < o ∨ o + n ≤ k) : RE o n f (upd g k y) := by
  intro i hi
  rw [pu_upd, if_neg (by omega)]; exact h i hi
theorem RE_eq {o n : Nat} {f g : Nat → Int32} (h : RE o n f g) {i j : Nat} (hi : i < n) (hj : j = o + i) : g j = f i := by
  subst hj; exact (h i hi).symm
/-- sums over a row -/
def sm_ (f : Nat → Int32) : Nat → Int32
  | 0 => 0
  | n + 1 => sm_ f n + f n
theorem sm_congr {f g : Nat → Int32} : ∀ n, (∀ i, i < n → f i = g i) → sm_ f n = sm_ g n := by
  intro n
  induction n with
  | zero => intro _; rfl
  | succ n ih => intro h; unfold sm_; rw [ih (fun i hi => h i (by omega)), h n (by omega)]
theorem sm_upd {f : Nat → Int32} {k : Nat} {x : Int32} : ∀ n, k < n → sm_ (upd f k x) n = sm_ f n - f k + x := by
  intro n
  induction n with
  | zero => intro h; omega
  | succ n ih =>
    intro h
    unfold sm_
    by_cases e : k = n
    · subst e
      rw [sm_congr (f := upd f k x) (g := f) k (fun i hi => by rw [pu_upd, if_neg (by omega)]), pu_upd, if_pos rfl]
      grind
    · rw [ih (by omega), pu_upd, if_neg (by omega)]
      grind
/-- the bit q of a number, as Java reads it -/
theorem pu_bit (x : Int32) {q : Nat} (hq : q < 31) : (x >>> (nI q &&& 31)) &&& 1 = if bt x q then 1 else 0 := by
  apply b_ext
  intro i hi
  rw [b_and, b_sshr q (by omega) x hi]
  have h1 : bt 1 i = decide (i = 0) := (by decide +kernel : ∀ i, i < 32 → bt 1 i = decide (i = 0)) i hi
  rw [h1]
  by_cases e : i = 0
  · subst e
    rw [if_pos (by omega)]
    cases bt x (q + 0) <;> simp [b_0, h1]
  · cases hb : bt x q <;> simp [e, b_0, h1]
theorem pu_sets (x : Int32) {p q : Nat} (hp : p < 32) (hq : q < 32) : bt (x ||| ((1 : Int32) <<< (nI p &&& 31))) q = (bt x q || decide (q = p)) := by
  rw [b_or, b_shl p hp 1 hq]
  have h1 : ∀ i, i < 32 → bt 1 i = decide (i = 0) := by decide +kernel
  congr 1
  by_cases h : p ≤ q
  · rw [h1 (q - p) (by omega)]
    simp [h]; omega
  · simp [h]; omega
