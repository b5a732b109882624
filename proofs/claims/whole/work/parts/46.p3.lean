/-! What a text tells, on both sides: n parties, m sittings. -/
def trR (P v : VV) (p : Nat) : Prop := P.2.1 1 p = v.2.1 4 p ∧ P.2.1 (100 + p) 0 = v.2.1 5 p ∧ (∀ t, t < 3 → P.2.1 (100 + p) (1 + t) = v.2.1 6 (3 * p + t)) ∧ P.2.1 (100 + p) 4 = v.2.1 7 p ∧ P.2.1 (100 + p) 5 = v.2.1 8 p ∧ P.2.1 (100 + p) 6 = v.2.1 9 p
def trB (v : VV) (p : Nat) : Prop := (∃ s : Nat, 1 ≤ s ∧ s ≤ 9 ∧ v.2.1 5 p = nI s) ∧ (∀ t, t < 3 → ∃ w : Nat, w ≤ 9 ∧ v.2.1 6 (3 * p + t) = nI w) ∧ (∃ o : Nat, o ≤ 999 ∧ v.2.1 7 p = nI o) ∧ (∃ c : Nat, c ≤ 99 ∧ v.2.1 8 p = nI c) ∧ (∃ a : Nat, a ≤ 100 ∧ v.2.1 9 p = nI a)
def siR (P v : VV) (t : Nat) : Prop := P.2.1 4 t = v.2.1 10 t ∧ P.2.1 5 t = v.2.1 11 t
def siB (v : VV) (t : Nat) : Prop := (∃ x : Nat, x ≤ 999 ∧ v.2.1 10 t = nI x) ∧ (∃ x : Nat, x ≤ 99 ∧ v.2.1 11 t = nI x)
def seR (P v : VV) : Prop := P.2.1 6 0 = v.2.1 3 1 ∧ P.2.1 6 1 = v.2.1 3 3 ∧ P.2.1 6 2 = v.2.1 3 4 ∧ P.2.1 6 3 = v.2.1 3 5 ∧ P.2.1 6 4 = v.2.1 3 6 ∧ P.2.1 6 5 = v.2.1 3 7
def seB (v : VV) : Prop := (∃ x : Nat, 1 ≤ x ∧ x ≤ 99 ∧ v.2.1 3 1 = nI x) ∧ (∃ x : Nat, 1 ≤ x ∧ x ≤ 99 ∧ v.2.1 3 3 = nI x) ∧ (∃ x : Nat, x ≤ 99 ∧ v.2.1 3 4 = nI x) ∧ (∃ x : Nat, 1 ≤ x ∧ x ≤ 9 ∧ v.2.1 3 5 = nI x) ∧ (∃ x : Nat, x ≤ 99 ∧ v.2.1 3 6 = nI x) ∧ (∃ x : Nat, x ≤ 99999 ∧ v.2.1 3 7 = nI x)
def PR (n m : Nat) (P L v : VV) : Prop := (n ≤ 8 ∧ m ≤ 3) ∧ (P.1 0 = nI n ∧ v.2.1 3 0 = nI n ∧ P.1 3 = nI m ∧ v.2.1 3 2 = nI m) ∧ (∀ p, p < n → trR P v p ∧ trB v p) ∧ (∀ t, t < m → siR P v t ∧ siB v t) ∧ (∀ t, m ≤ t → t < 3 → P.2.1 5 t = 0) ∧ seR P v ∧ seB v ∧ (∀ r, r < 3 → lawR L v r) ∧ L.1 3 = v.2.1 3 8
theorem PR_tr {n m : Nat} {P L v L' v' : VV} (h : PR n m P L v) (hv : ∀ k, k ≤ 15 → v'.2.1 k = v.2.1 k) (h1 : L'.1 3 = L.1 3) (hL : ∀ k, k ≤ 5 → L'.2.1 k = L.2.1 k) : PR n m P L' v' := by
  unfold PR trR trB siR siB seR seB lawR at *
  simp only [hv 3 (by omega), hv 4 (by omega), hv 5 (by omega), hv 6 (by omega), hv 7 (by omega), hv 8 (by omega), hv 9 (by omega), hv 10 (by omega), hv 11 (by omega), hv 12 (by omega), hv 13 (by omega), hv 14 (by omega), hv 15 (by omega), h1, hL 0 (by omega), hL 1 (by omega), hL 4 (by omega), hL 5 (by omega)]
  exact h
theorem PR_n {n m : Nat} {P L v : VV} (h : PR n m P L v) : n ≤ 8 := h.1.1
theorem PR_m {n m : Nat} {P L v : VV} (h : PR n m P L v) : m ≤ 3 := h.1.2
theorem PR_P0 {n m : Nat} {P L v : VV} (h : PR n m P L v) : P.1 0 = nI n := h.2.1.1
theorem PR_v0 {n m : Nat} {P L v : VV} (h : PR n m P L v) : v.2.1 3 0 = nI n := h.2.1.2.1
theorem PR_P3 {n m : Nat} {P L v : VV} (h : PR n m P L v) : P.1 3 = nI m := h.2.1.2.2.1
theorem PR_v2 {n m : Nat} {P L v : VV} (h : PR n m P L v) : v.2.1 3 2 = nI m := h.2.1.2.2.2
theorem PR_tR {n m : Nat} {P L v : VV} (h : PR n m P L v) {p : Nat} (hp : p < n) : trR P v p := (h.2.2.1 p hp).1
theorem PR_tB {n m : Nat} {P L v : VV} (h : PR n m P L v) {p : Nat} (hp : p < n) : trB v p := (h.2.2.1 p hp).2
theorem PR_sR {n m : Nat} {P L v : VV} (h : PR n m P L v) {t : Nat} (ht : t < m) : siR P v t := (h.2.2.2.1 t ht).1
theorem PR_sB {n m : Nat} {P L v : VV} (h : PR n m P L v) {t : Nat} (ht : t < m) : siB v t := (h.2.2.2.1 t ht).2
theorem PR_5 {n m : Nat} {P L v : VV} (h : PR n m P L v) {t : Nat} (ht : m ≤ t) (h3 : t < 3) : P.2.1 5 t = 0 := h.2.2.2.2.1 t ht h3
theorem PR_sE {n m : Nat} {P L v : VV} (h : PR n m P L v) : seR P v := h.2.2.2.2.2.1
theorem PR_sF {n m : Nat} {P L v : VV} (h : PR n m P L v) : seB v := h.2.2.2.2.2.2.1
theorem PR_law {n m : Nat} {P L v : VV} (h : PR n m P L v) {r : Nat} (hr : r < 3) : lawR L v r := h.2.2.2.2.2.2.2.1 r hr
theorem PR_kn {n m : Nat} {P L v : VV} (h : PR n m P L v) : L.1 3 = v.2.1 3 8 := h.2.2.2.2.2.2.2.2
theorem tra {P : VV} {n p w : Nat} (hn : n ≤ 8) (h0 : P.1 0 = nI n) (hp : p < n) (hw : w < 7) : f_X6_trait P (nI p) (nI w) = some (P.2.1 (100 + p) w) := by
  unfold f_X6_trait
  rw [if_neg (nI_pos (show p < 2 ^ 31 by omega)), h0, if_neg (nI_ge hp (by omega)), if_neg (nI_pos (show w < 2 ^ 31 by omega)), if_neg (show ¬ (7 : Int32) ≤ nI (w) from nI_ge (a := w) (b := 7) (by omega) (by omega)), pu_gin (show p < 8 by omega) (show 8 < 2 ^ 31 by omega), pu_gin (show w < 7 by omega) (show 7 < 2 ^ 31 by omega), nI_clamp (show p < 2 ^ 31 by omega), nI_clamp (show w < 2 ^ 31 by omega)]
theorem tra0 {n m p : Nat} {P L v : VV} (h : PR n m P L v) (hp : p < n) : f_X6_trait P (nI p) 0 = some (v.2.1 5 p) := by
  rw [show (0 : Int32) = nI 0 from rfl, tra (PR_n h) (PR_P0 h) hp (by omega), (PR_tR h hp).2.1]
theorem traW {n m p t : Nat} {P L v : VV} (h : PR n m P L v) (hp : p < n) (ht : t < 3) : f_X6_trait P (nI p) (1 + nI t) = some (v.2.1 6 (3 * p + t)) := by
  rw [show (1 : Int32) = nI 1 from rfl, nI_add, tra (PR_n h) (PR_P0 h) hp (by omega), (PR_tR h hp).2.2.1 t ht]
theorem tra4 {n m p : Nat} {P L v : VV} (h : PR n m P L v) (hp : p < n) : f_X6_trait P (nI p) 4 = some (v.2.1 7 p) := by
  rw [show (4 : Int32) = nI 4 from rfl, tra (PR_n h) (PR_P0 h) hp (by omega), (PR_tR h hp).2.2.2.1]
theorem tra5 {n m p : Nat} {P L v : VV} (h : PR n m P L v) (hp : p < n) : f_X6_trait P (nI p) 5 = some (v.2.1 8 p) := by
  rw [show (5 : Int32) = nI 5 from rfl, tra (PR_n h) (PR_P0 h) hp (by omega), (PR_tR h hp).2.2.2.2.1]
theorem tra6 {n m p : Nat} {P L v : VV} (h : PR n m P L v) (hp : p < n) : f_X6_trait P (nI p) 6 = some (v.2.1 9 p) := by
  rw [show (6 : Int32) = nI 6 from rfl, tra (PR_n h) (PR_P0 h) hp (by omega), (PR_tR h hp).2.2.2.2.2]
theorem hasP {n m : Nat} {P L v : VV} (h : PR n m P L v) (x : Int32) : (∃ p, p < n ∧ x = nI p ∧ f_X6_hasParty P x = some 1 ∧ f_X12_isParty v x = some 1) ∨ (f_X6_hasParty P x = some 0 ∧ f_X12_isParty v x = some 0) := by
  have hn := PR_n h
  unfold f_X6_hasParty f_X12_isParty
  rw [PR_P0 h, PR_v0 h]
  rcases pk_ix x (n := n) (by omega) with h1 | h1 | ⟨p, hp, rfl⟩
  · simp only [if_pos h1]; exact Or.inr ⟨trivial, trivial⟩
  · right
    by_cases h2 : x < 0
    · rw [if_pos h2]; exact ⟨rfl, rfl⟩
    · rw [if_neg h2, if_pos h1]; exact ⟨rfl, rfl⟩
  · left
    refine ⟨p, hp, rfl, ?_, ?_⟩ <;> rw [if_neg (nI_pos (show p < 2 ^ 31 by omega)), if_neg (nI_ge hp (by omega))]
theorem hasP1 {n m p : Nat} {P L v : VV} (h : PR n m P L v) (hp : p < n) : f_X6_hasParty P (nI p) = some 1 := by
  have hn := PR_n h
  unfold f_X6_hasParty
  rw [PR_P0 h, if_neg (nI_pos (show p < 2 ^ 31 by omega)), if_neg (nI_ge hp (by omega))]
theorem hasS {n m : Nat} {P L v : VV} (h : PR n m P L v) (x : Int32) : (∃ t, t < m ∧ x = nI t ∧ f_X6_hasSitting P x = some 1 ∧ f_X12_isSitting v x = some 1) ∨ (f_X6_hasSitting P x = some 0 ∧ f_X12_isSitting v x = some 0) := by
  have hm := PR_m h
  unfold f_X6_hasSitting f_X12_isSitting
  rw [PR_P3 h, PR_v2 h]
  rcases pk_ix x (n := m) (by omega) with h1 | h1 | ⟨p, hp, rfl⟩
  · simp only [if_pos h1]; exact Or.inr ⟨trivial, trivial⟩
  · right
    by_cases h2 : x < 0
    · rw [if_pos h2]; exact ⟨rfl, rfl⟩
    · rw [if_neg h2, if_pos h1]; exact ⟨rfl, rfl⟩
  · left
    refine ⟨p, hp, rfl, ?_, ?_⟩ <;> rw [if_neg (nI_pos (show p < 2 ^ 31 by omega)), if_neg (nI_ge hp (by omega))]
theorem hasS1 {n m t : Nat} {P L v : VV} (h : PR n m P L v) (ht : t < m) : f_X6_hasSitting P (nI t) = some 1 := by
  have hm := PR_m h
  unfold f_X6_hasSitting
  rw [PR_P3 h, if_neg (nI_pos (show t < 2 ^ 31 by omega)), if_neg (nI_ge ht (by omega))]
/-- what a law may have changed -/
def LF (L L' : VV) : Prop := L'.1 = L.1 ∧ ∀ k, k ≠ 6 → L'.2.1 k = L.2.1 k
def wkG (v v' : VV) : Prop := v'.2.1 = v.2.1 ∧ ∀ k, k ≠ 31 → v'.1 k = v.1 k
theorem LF.refl (L : VV) : LF L L := ⟨rfl, fun _ _ => rfl⟩
theorem LF.trans {A B C : VV} (h : LF A B) (h' : LF B C) : LF A C := ⟨h'.1.trans h.1, fun k hk => (h'.2 k hk).trans (h.2 k hk)⟩
theorem wkG.refl (L : VV) : wkG L L := ⟨rfl, fun _ _ => rfl⟩
theorem wkG.trans {A B C : VV} (h : wkG A B) (h' : wkG B C) : wkG A C := ⟨h'.1.trans h.1, fun k hk => (h'.2 k hk).trans (h.2 k hk)⟩
theorem PR_LF {n m : Nat} {P L v L' v' : VV} (h : PR n m P L v) (hL : LF L L') (hv : wkG v v') : PR n m P L' v' := PR_tr h (fun k _ => by rw [hv.1]) (by rw [hL.1]) (fun k hk => hL.2 k (by omega))
/-- what is told as it goes: who lingers -/
def linR (n : Nat) (Y v : VV) : Prop := ∀ p, p < n → (nI p = Y.1 4 ↔ nI p = v.1 53)
/-- the coffee of a party, with lingering -/
def cof (v : VV) (p : Nat) : Int32 := if nI p = v.1 53 then jmin 99 (v.2.1 8 p + 20) else v.2.1 8 p
theorem cofIn {v w : VV} {p : Nat} (hp : p < 16) (h53 : w.1 53 = v.1 53) (h8 : w.2.1 8 = v.2.1 8) : f_X12_coffeeIn w (nI p) = some (cof v p) := by
  unfold f_X12_coffeeIn cof
  rw [h53, h8]
  by_cases h : nI p = v.1 53
  · rw [if_pos h, if_pos h, pu_gin (show p < 16 by omega) (show 16 < 2 ^ 31 by omega), nI_clamp (show p < 2 ^ 31 by omega)]
  · rw [if_neg h, if_neg h, pu_gin (show p < 16 by omega) (show 16 < 2 ^ 31 by omega), nI_clamp (show p < 2 ^ 31 by omega)]
theorem jmin_c (x y : Int32) : jmin x y = jmin y x := by
  unfold jmin
  by_cases h : y < x
  · rw [if_pos h, if_neg (Int32.lt_asymm h)]
  · rw [if_neg h]
    by_cases h' : x < y
    · rw [if_pos h']
    · rw [if_neg h']; exact Int32.le_antisymm (Int32.not_lt.mp h) (Int32.not_lt.mp h')
theorem jmax_c (x y : Int32) : jmax x y = jmax y x := by
  unfold jmax
  by_cases h : x < y
  · rw [if_pos h, if_neg (Int32.lt_asymm h)]
  · rw [if_neg h]
    by_cases h' : y < x
    · rw [if_pos h']
    · rw [if_neg h']; exact Int32.le_antisymm (Int32.not_lt.mp h') (Int32.not_lt.mp h)
theorem lookR {n m p t c : Nat} {P L S Y v : VV} (h : PR n m P L v) (hp : p < n) (ht : t < m) (hc : c < 23) (hY : linR n Y v) (late : Int32) (hpr : S.2.1 4 t = v.2.1 43 (3 * c + t)) (hda : S.1 0 = v.2.1 32 c) :
    ∃ L' v', f_X0_look P L S Y (nI p) (nI t) late = some L' ∧ f_X12_calls v (nI c) (nI p) (nI t) late = some v' ∧ LF L L' ∧ v'.1 = v.1 ∧ v'.2.1 = v.2.1 ∧ (∀ j, j < 7 → (L'.2.1 6 j).toInt64 = v'.2.2 29 j) ∧ L'.2.1 6 1 = v.2.1 6 (3 * p + t) ∧ L'.2.1 6 4 = cof v p ∧ L'.2.1 6 5 = v.2.1 9 p := by
  have hn := PR_n h
  have hm := PR_m h
  have hcl : f_X0_look P L S Y (nI p) (nI t) late = some (sr (sr (sr (sr (sr (sr (sr L 6 0 (v.2.1 5 p)) 6 1 (v.2.1 6 (3 * p + t))) 6 2 late) 6 3 (v.2.1 43 (3 * c + t))) 6 4 (cof v p)) 6 5 (v.2.1 9 p)) 6 6 (v.2.1 32 c)) := by
    have hb : ∀ x, f_X0_look_b41 P L S Y (nI p) (nI t) late x = some (sr (sr (sr (sr (sr (sr (sr L 6 0 (v.2.1 5 p)) 6 1 (v.2.1 6 (3 * p + t))) 6 2 late) 6 3 (v.2.1 43 (3 * c + t))) 6 4 x) 6 5 (v.2.1 9 p)) 6 6 (v.2.1 32 c)) := by
      intro x
      unfold f_X0_look_b41
      rw [tra0 h hp, pu_bnd, traW h hp (by omega), pu_bnd, pu_gin (show t < 3 by omega) (show 3 < 2 ^ 31 by omega), tra6 h hp, pu_bnd, nI_clamp (show t < 2 ^ 31 by omega), hpr, hda]
    unfold f_X0_look
    rw [hasS1 h ht, pu_bnd, if_neg (by decide), tra5 h hp, pu_bnd]
    by_cases hl : nI p = Y.1 4
    · rw [if_pos hl, hb]; unfold cof; rw [if_pos ((hY p hp).mp hl), jmin_c]
    · rw [if_neg hl, hb]; unfold cof; rw [if_neg (fun e => hl ((hY p hp).mpr e))]
  refine ⟨_, (sj (sj (sj (sj (sj (sj (sj v 29 0 (v.2.1 5 p).toInt64) 29 1 (v.2.1 6 (3 * p + t)).toInt64) 29 2 late.toInt64) 29 3 (v.2.1 43 (3 * c + t)).toInt64) 29 4 (cof v p).toInt64) 29 5 (v.2.1 9 p).toInt64) 29 6 (v.2.1 32 c).toInt64), hcl, ?_, ⟨rfl, ?_⟩, ?_⟩
  · have hcf : ∀ w : VV, w.1 53 = v.1 53 → w.2.1 8 = v.2.1 8 → f_X12_coffeeIn w (nI p) = some (cof v p) := fun w a b => cofIn (by omega) a b
    unfold f_X12_calls
    rw [pu_3, pu_3, pu_gin (show p < 16 by omega) (show 16 < 2 ^ 31 by omega), pu_gin (show 3 * p + t < 48 by omega) (show 48 < 2 ^ 31 by omega), pu_gin (show 3 * c + t < 69 by omega) (show 69 < 2 ^ 31 by omega), hcf, pu_bnd, pu_gin (show p < 16 by omega) (show 16 < 2 ^ 31 by omega), pu_gin (show c < 23 by omega) (show 23 < 2 ^ 31 by omega), nI_clamp (show p < 2 ^ 31 by omega), nI_clamp (show c < 2 ^ 31 by omega), nI_clamp (show 3 * p + t < 2 ^ 31 by omega), nI_clamp (show 3 * c + t < 2 ^ 31 by omega)]
    · rfl
    · rfl
  · intro k hk
    simp only [pu_sr2, if_neg hk]
  · refine ⟨rfl, rfl, ?_, rfl, rfl, rfl⟩
    intro j hj
    have : j = 0 ∨ j = 1 ∨ j = 2 ∨ j = 3 ∨ j = 4 ∨ j = 5 ∨ j = 6 := by omega
    rcases this with rfl | rfl | rfl | rfl | rfl | rfl | rfl <;> rfl
theorem clampL (x : Int64) {M : Nat} (hM : M ≤ 100) : ∃ y : Nat, y ≤ M ∧ (jmaxL 0 (jminL (nI M).toInt64 x)).toInt32 = nI y ∧ (jminL (jmaxL x 0) (nI M).toInt64).toInt32 = nI y := by
  rw [nI_l (by omega)]
  unfold jmaxL jminL
  have h00 : (0 : Int64) = lN 0 := rfl
  by_cases hx : x < 0
  · refine ⟨0, by omega, ?_, ?_⟩
    · have h1 : x < lN M := by
        rw [Int64.lt_iff_toInt_lt] at *
        rw [lN_toInt (by omega)]
        have : (0 : Int64).toInt = 0 := by decide
        omega
      rw [if_pos h1, if_pos hx]; rfl
    · rw [if_neg (Int64.lt_asymm hx)]
      by_cases h0 : lN M < 0
      · rw [h00, lN_lt (by omega) (by omega)] at h0; omega
      · rw [if_neg h0]; rfl
  · obtain ⟨k, hk, rfl⟩ := pk_lOf hx
    rw [h00]
    have a1 := pk_lLT (a := k) (b := M) hk (by omega)
    have a2 := pk_lLT (a := M) (b := 0) (by omega) (by omega)
    have a3 := pk_lLT (a := k) (b := 0) hk (by omega)
    have a4 := pk_lLT (a := 0) (b := k) (by omega) hk
    have a5 := pk_lLT (a := M) (b := k) (by omega) hk
    by_cases h1 : k < M
    · refine ⟨k, by omega, ?_, ?_⟩
      · rw [if_pos (a1.mpr h1), if_neg (fun h => by have := a3.mp h; omega), lN_i]
      · by_cases h2 : 0 < k
        · rw [if_pos (a4.mpr h2), if_neg (fun h => by have := a5.mp h; omega), lN_i]
        · have : k = 0 := by omega
          subst this
          rw [ite_self, if_neg (fun h => by have := a2.mp h; omega), lN_i]
    · refine ⟨M, by omega, ?_, ?_⟩
      · rw [if_neg (fun h => h1 (a1.mp h)), if_neg (fun h => by have := a2.mp h; omega), lN_i]
      · by_cases h2 : 0 < k
        · rw [if_pos (a4.mpr h2)]
          by_cases h3 : M < k
          · rw [if_pos (a5.mpr h3), lN_i]
          · rw [if_neg (fun h => h3 (a5.mp h)), lN_i]
            congr 1; omega
        · have hk0 : k = 0 := by omega
          subst hk0
          have hM0 : M = 0 := by omega
          subst hM0
          rw [ite_self, ite_self, lN_i]
/-- what follows a look: the law's value within its bounds, or what holds without it -/
theorem withinR (N : Nat) (hN : 66 < N) {n m r M k : Nat} {P L L' S Y v : VV} {wo : Int32} (h : PR n m P L v) (hr : r < 3) (hM : M ≤ 100) (hn : ∀ j, j < 7 → (L.2.1 6 j).toInt64 = v.2.2 29 j) (hwo : ∃ y : Nat, y ≤ M ∧ wo = nI y) (hL0 : LF L' L) :
    ∃ y x LL v', y ≤ M ∧ f_X3_work N L (nI r) = some (x, LL) ∧ f_X12_within N v (nI r) (nI M) wo = some (nI y, v') ∧ LF L' LL ∧ LL.2.1 6 = L.2.1 6 ∧ wkG v v' ∧ ((x = -9223372036854775808 ∧ nI y = wo) ∨ (¬ x = -9223372036854775808 ∧ (jminL (jmaxL x 0) (nI M).toInt64).toInt32 = nI y)) := by
  obtain ⟨x, LL, q, h1, h2, h3, h4, h5⟩ := work_goes N hN L v r hr (PR_law h hr) hn
  have hLF : LF L' LL := ⟨h2.trans hL0.1, fun k hk => by rw [h3]; exact hL0.2 k hk⟩
  unfold f_X12_within
  rw [h4, pu_bnd]
  rcases h5 with ⟨hq, hx⟩ | ⟨hq, z, v', hg, hF, hc⟩
  · rw [if_pos hq]
    obtain ⟨y, hy, hwy⟩ := hwo
    exact ⟨y, x, LL, v, hy, h1, by rw [hwy], hLF, by rw [h3], wkG.refl v, Or.inl ⟨hx, hwy.symm⟩⟩
  · rw [hq, if_neg (by decide), hg, pu_bnd]
    rcases hc with ⟨hx, hz⟩ | ⟨hb, hz, hv⟩
    · rw [if_pos hz]
      obtain ⟨y, hy, hwy⟩ := hwo
      exact ⟨y, x, LL, v', hy, h1, by rw [hwy], hLF, by rw [h3], ⟨hF.1, hF.2.1⟩, Or.inl ⟨hx, hwy.symm⟩⟩
    · have hz' : ¬ (z, v').1 = 0 := by show ¬ z = 0; rw [hz]; decide
      rw [if_neg hz']
      obtain ⟨y, hy, e1, e2⟩ := clampL x hM
      refine ⟨y, x, LL, v', hy, h1, ?_, hLF, by rw [h3], ⟨hF.1, hF.2.1⟩, Or.inr ⟨fun e => bdd_min (e ▸ hb), e2⟩⟩
      rw [hv, e1]
theorem evC5 {r : Nat} : (evC 5).getD r 0 = if r = 0 then 99 else if r = 1 then 99 else if r = 2 then 100 else 0 := by
  match r with
  | 0 => rfl
  | 1 => rfl
  | 2 => rfl
  | n + 3 => rfl
/-- the class's manner, the reference's likes, stays, misses -/
def mnQ (N M r p t c : Nat) (P L S Y v : VV) (late : Int32) (F : Option (Int32 × VV)) : Prop := ∃ y L' v', y ≤ M ∧ f_X0_manner N P L S Y (nI r) (nI p) (nI t) late = some (nI y, L') ∧ F = some (nI y, v') ∧ LF L L' ∧ wkG v v'
theorem manner_of (N : Nat) (hN : 66 < N) {n m r p t c M z : Nat} {P L S Y v v1 L1 : VV} {late wo : Int32} (h : PR n m P L v) (ht : t < m) (hr : r < 3) (hM : M ≤ 100) (hl : f_X0_look P L S Y (nI p) (nI t) late = some L1) (hL1 : LF L L1) (hv1 : v1.1 = v.1) (hv2 : v1.2.1 = v.2.1) (hn : ∀ j, j < 7 → (L1.2.1 6 j).toInt64 = v1.2.2 29 j) (hwo : ∃ y : Nat, y ≤ M ∧ wo = nI y) (hz : L1.2.1 6 z = wo) (hz7 : z < 7) (hzr : z = if r = 0 then 1 else if r = 1 then 4 else 5) (hMr : ((evC 5).getD r 0) = nI M) :
    mnQ N M r p t c P L S Y v late (f_X12_within N v1 (nI r) (nI M) wo) := by
  have hP1 : PR n m P L1 v1 := PR_LF h hL1 ⟨hv2, fun k _ => by rw [hv1]⟩
  obtain ⟨y, x, LL, v', hy, hw, hwi, hLF, h6, hk, hc⟩ := withinR (k := 0) (S := S) (Y := Y) N hN hP1 hr hM hn hwo hL1
  refine ⟨y, LL, v', hy, ?_, hwi, hLF, hk.1.trans hv2, fun k hk' => (hk.2 k hk').trans (by rw [hv1])⟩
  unfold f_X0_manner
  rw [if_neg (nI_pos (show r < 2 ^ 31 by omega)), if_neg (show ¬ (3 : Int32) ≤ nI (r) from nI_ge (a := r) (b := 3) (by omega) (by omega)), hasS1 h ht, pu_bnd, if_neg (by decide), hl, pu_bnd, hw, pu_bnd]
  have hb : f_X0_manner_b69 N P LL S Y (nI z) = some (wo, LL) := by
    unfold f_X0_manner_b69
    rw [pu_gin (show z < 7 by omega) (show 7 < 2 ^ 31 by omega), nI_clamp (show z < 2 ^ 31 by omega), h6, hz]
  rcases hc with ⟨hx, hyw⟩ | ⟨hx, hyc⟩
  · rw [if_pos hx, hyw]
    have : r = 0 ∨ r = 1 ∨ r = 2 := by omega
    rcases this with rfl | rfl | rfl
    · rw [if_pos (show nI 0 = 0 from rfl)]; subst hzr; exact hb
    · rw [if_neg (by decide), if_pos (show nI 1 = 1 from rfl)]; subst hzr; exact hb
    · rw [if_neg (by decide), if_neg (by decide)]; subst hzr; exact hb
  · rw [if_neg hx, pu_gin (show r < 3 by omega) (show 3 < 2 ^ 31 by omega), nI_clamp (show r < 2 ^ 31 by omega), hMr, hyc]
theorem likeR (N : Nat) (hN : 66 < N) {n m p t c : Nat} {P L S Y v : VV} (h : PR n m P L v) (hp : p < n) (ht : t < m) (hc : c < 23) (hY : linR n Y v) (late : Int32) (hpr : S.2.1 4 t = v.2.1 43 (3 * c + t)) (hda : S.1 0 = v.2.1 32 c) :
    mnQ N 99 0 p t c P L S Y v late (f_X12_likeOf N v (nI c) (nI p) (nI t) late) := by
  have hn := PR_n h
  have hm := PR_m h
  obtain ⟨L1, v1, h1, h2, h3, h4, h5, h6, h7, h8, h9⟩ := lookR h hp ht hc hY late hpr hda
  obtain ⟨w, hw, hwe⟩ := (PR_tB h hp).2.1 t (by omega)
  have := manner_of (c := c) (z := 1) (M := 99) (r := 0) N hN h ht (by omega) (by omega) h1 h3 h4 h5 h6 ⟨w, by omega, hwe⟩ h7 (by omega) rfl rfl
  obtain ⟨y, L', v', g1, g2, g3, g4, g5⟩ := this
  refine ⟨y, L', v', g1, g2, ?_, g4, g5⟩
  unfold f_X12_likeOf
  rw [h2, pu_bnd, pu_3, pu_gin (show 3 * p + t < 48 by omega) (show 48 < 2 ^ 31 by omega), nI_clamp (show 3 * p + t < 2 ^ 31 by omega), h5]
  show bnd (f_X12_within N v1 (nI 0) (nI 99) _) _ = _
  rw [g3, pu_bnd]
theorem cof_le {n m p : Nat} {P L v : VV} (h : PR n m P L v) (hp : p < n) : ∃ y : Nat, y ≤ 99 ∧ cof v p = nI y := by
  obtain ⟨x, hx, hxe⟩ := (PR_tB h hp).2.2.2.1
  unfold cof
  by_cases hl : nI p = v.1 53
  · rw [if_pos hl, hxe, show (20 : Int32) = nI 20 from rfl, nI_add]
    unfold jmin
    by_cases h9 : nI (x + 20) < 99
    · rw [if_pos h9]
      have := (nI_ltI (a := x + 20) (b := 99) (by omega) (by omega)).mp h9
      exact ⟨x + 20, by omega, rfl⟩
    · rw [if_neg h9]; exact ⟨99, by omega, rfl⟩
  · rw [if_neg hl]; exact ⟨x, hx, hxe⟩
theorem stayR (N : Nat) (hN : 66 < N) {n m p t c : Nat} {P L S Y v : VV} (h : PR n m P L v) (hp : p < n) (ht : t < m) (hc : c < 23) (hY : linR n Y v) (late : Int32) (hpr : S.2.1 4 t = v.2.1 43 (3 * c + t)) (hda : S.1 0 = v.2.1 32 c) (h50 : ¬ v.1 50 = 4) :
    mnQ N 99 1 p t c P L S Y v late (f_X12_stayOf N v (nI c) (nI p) (nI t) late) := by
  have hn := PR_n h
  have hm := PR_m h
  obtain ⟨L1, v1, h1, h2, h3, h4, h5, h6, h7, h8, h9⟩ := lookR h hp ht hc hY late hpr hda
  have := manner_of (c := c) (z := 4) (M := 99) (r := 1) N hN h ht (by omega) (by omega) h1 h3 h4 h5 h6 (cof_le h hp) h8 (by omega) rfl rfl
  obtain ⟨y, L', v', g1, g2, g3, g4, g5⟩ := this
  refine ⟨y, L', v', g1, g2, ?_, g4, g5⟩
  unfold f_X12_stayOf
  have hcf : f_X12_coffeeIn v1 (nI p) = some (cof v p) := cofIn (by omega) (by rw [h4]) (by rw [h5])
  rw [if_neg h50, h2, pu_bnd, hcf, pu_bnd]
  show bnd (f_X12_within N v1 (nI 1) (nI 99) _) _ = _
  rw [g3, pu_bnd]
theorem missR (N : Nat) (hN : 66 < N) {n m p t c : Nat} {P L S Y v : VV} (h : PR n m P L v) (hp : p < n) (ht : t < m) (hc : c < 23) (hY : linR n Y v) (late : Int32) (hpr : S.2.1 4 t = v.2.1 43 (3 * c + t)) (hda : S.1 0 = v.2.1 32 c) (h50 : ¬ v.1 50 = 1) :
    mnQ N 100 2 p t c P L S Y v late (f_X12_missOf N v (nI c) (nI p) (nI t) late) := by
  have hn := PR_n h
  have hm := PR_m h
  obtain ⟨L1, v1, h1, h2, h3, h4, h5, h6, h7, h8, h9⟩ := lookR h hp ht hc hY late hpr hda
  obtain ⟨w, hw, hwe⟩ := (PR_tB h hp).2.2.2.2
  have := manner_of (c := c) (z := 5) (M := 100) (r := 2) N hN h ht (by omega) (by omega) h1 h3 h4 h5 h6 ⟨w, by omega, hwe⟩ h9 (by omega) rfl rfl
  obtain ⟨y, L', v', g1, g2, g3, g4, g5⟩ := this
  refine ⟨y, L', v', g1, g2, ?_, g4, g5⟩
  unfold f_X12_missOf
  rw [if_neg h50, h2, pu_bnd, pu_gin (show p < 16 by omega) (show 16 < 2 ^ 31 by omega), nI_clamp (show p < 2 ^ 31 by omega), h5]
  show bnd (f_X12_within N v1 (nI 2) (nI 100) _) _ = _
  rw [g3, pu_bnd]
