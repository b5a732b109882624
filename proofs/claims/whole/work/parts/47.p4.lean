/-! A day: a car of the reference's, a state of the class's. -/
def carR (aw : Prop) (c : Nat) (S v : VV) : Prop := (S.1 0 = v.2.1 32 c ∧ S.1 1 = v.2.1 36 c ∧ S.1 9 = v.2.1 33 c ∧ S.1 10 = v.2.1 34 c ∧ S.1 11 = v.2.1 35 c) ∧ RE (8 * c) 8 (S.2.1 2) (v.2.1 37) ∧ RE (8 * c) 8 (S.2.1 5) (v.2.1 38) ∧ RE (8 * c) 8 (S.2.1 6) (v.2.1 39) ∧ (aw → RE (8 * c) 8 (S.2.1 7) (v.2.1 40)) ∧ RE (8 * c) 8 (S.2.1 8) (v.2.1 41) ∧ RE (3 * c) 3 (S.2.1 3) (v.2.1 42) ∧ RE (3 * c) 3 (S.2.1 4) (v.2.1 43)
/-- what a day in car c leaves as it was -/
def FR (c : Nat) (v v' : VV) : Prop := (∀ k, k ≠ 31 → k ≠ 55 → k ≠ 56 → k ≠ 57 → v'.1 k = v.1 k) ∧ (∀ k, k < 32 ∨ 47 < k → v'.2.1 k = v.2.1 k) ∧ (∀ k j, 32 ≤ k → k ≤ 36 → j ≠ c → v'.2.1 k j = v.2.1 k j) ∧ (∀ k j, 37 ≤ k → k ≤ 41 → (j < 8 * c ∨ 8 * c + 8 ≤ j) → v'.2.1 k j = v.2.1 k j) ∧ (∀ k j, 42 ≤ k → k ≤ 47 → (j < 3 * c ∨ 3 * c + 3 ≤ j) → v'.2.1 k j = v.2.1 k j)
theorem FR.refl (c : Nat) (v : VV) : FR c v v := ⟨fun _ _ _ _ _ => rfl, fun _ _ => rfl, fun _ _ _ _ _ => rfl, fun _ _ _ _ _ => rfl, fun _ _ _ _ _ => rfl⟩
theorem FR.trans {c : Nat} {u v w : VV} (h : FR c u v) (h' : FR c v w) : FR c u w := ⟨fun k a b d e => (h'.1 k a b d e).trans (h.1 k a b d e), fun k a => (h'.2.1 k a).trans (h.2.1 k a), fun k j a b d => (h'.2.2.1 k j a b d).trans (h.2.2.1 k j a b d), fun k j a b d => (h'.2.2.2.1 k j a b d).trans (h.2.2.2.1 k j a b d), fun k j a b d => (h'.2.2.2.2 k j a b d).trans (h.2.2.2.2 k j a b d)⟩
theorem FR_wk {c : Nat} {v v' : VV} (h : wkG v v') : FR c v v' := ⟨fun k a _ _ _ => h.2 k a, fun k _ => by rw [h.1], fun k j _ _ _ => by rw [h.1], fun k j _ _ _ => by rw [h.1], fun k j _ _ _ => by rw [h.1]⟩
theorem FR_si {c : Nat} {v : VV} (k : Nat) (x : Int32) (hk : k = 55 ∨ k = 56 ∨ k = 57) : FR c v (si v k x) := ⟨fun q a b d e => by rw [pu_si1, if_neg (by omega)], fun _ _ => rfl, fun _ _ _ _ _ => rfl, fun _ _ _ _ _ => rfl, fun _ _ _ _ _ => rfl⟩
theorem FR_5 {c : Nat} {v : VV} (k : Nat) (x : Int32) (hk : 32 ≤ k) (hk' : k ≤ 36) : FR c v (sr v k c x) := by
  refine ⟨fun _ _ _ _ _ => rfl, fun q a => by rw [pu_sr2, if_neg (by omega)], fun q j a b d => ?_, fun q j a b d => by rw [pu_sr2, if_neg (by omega)], fun q j a b d => by rw [pu_sr2, if_neg (by omega)]⟩
  rw [pu_sr2]
  by_cases e : q = k
  · rw [if_pos e, pk_un d, e]
  · rw [if_neg e]
theorem FR_8 {c : Nat} {v : VV} (k p : Nat) (x : Int32) (hk : 37 ≤ k) (hk' : k ≤ 41) (hp : p < 8) : FR c v (sr v k (8 * c + p) x) := by
  refine ⟨fun _ _ _ _ _ => rfl, fun q a => by rw [pu_sr2, if_neg (by omega)], fun q j a b d => by rw [pu_sr2, if_neg (by omega)], fun q j a b d => ?_, fun q j a b d => by rw [pu_sr2, if_neg (by omega)]⟩
  rw [pu_sr2]
  by_cases e : q = k
  · rw [if_pos e, pk_un (by omega), e]
  · rw [if_neg e]
theorem FR_3 {c : Nat} {v : VV} (k t : Nat) (x : Int32) (hk : 42 ≤ k) (hk' : k ≤ 47) (ht : t < 3) : FR c v (sr v k (3 * c + t) x) := by
  refine ⟨fun _ _ _ _ _ => rfl, fun q a => by rw [pu_sr2, if_neg (by omega)], fun q j a b d => by rw [pu_sr2, if_neg (by omega)], fun q j a b d => by rw [pu_sr2, if_neg (by omega)], fun q j a b d => ?_⟩
  rw [pu_sr2]
  by_cases e : q = k
  · rw [if_pos e, pk_un (by omega), e]
  · rw [if_neg e]
theorem PR_FR {c n m : Nat} {P L v L' v' : VV} (h : PR n m P L v) (hL : LF L L') (hv : FR c v v') : PR n m P L' v' := PR_tr h (fun k hk => hv.2.1 k (by omega)) (by rw [hL.1]) (fun k hk => hL.2 k (by omega))
/-- the ways of a day: drawn or not, tried otherwise or not -/
def layR (P Y v : VV) : Prop := ∃ h : Int32, ¬ h = 0 ∧ f_X12_handsOf v = some h ∧ f_X0_laying P Y = some ((v.2.1 3 4 + h - 1) / h)
def wayR (n : Nat) (P Y v : VV) (bn : Int32) : Prop := linR n Y v ∧ (Y.1 0 = bn ∧ (v.1 50 = 1 → ¬ Y.1 1 = 0) ∧ (¬ v.1 50 = 1 → Y.1 1 = 0) ∧ (v.1 50 = 4 → ¬ Y.1 2 = 0) ∧ (¬ v.1 50 = 4 → Y.1 2 = 0) ∧ (v.1 50 = 2 → Y.1 3 = v.1 51) ∧ (¬ v.1 50 = 2 → Y.1 3 = -1) ∧ (v.1 50 = 3 → Y.1 5 = 4) ∧ (¬ v.1 50 = 3 → Y.1 5 = 0)) ∧ layR P Y v ∧ (∀ u, u < 3 → Y.2.1 7 u = v.2.1 54 u)
theorem lay_tr {P Y v v' : VV} (h : layR P Y v) (h50 : v'.1 50 = v.1 50) (h52 : v'.1 52 = v.1 52) (h3 : v'.2.1 3 = v.2.1 3) : layR P Y v' := by
  unfold layR f_X12_handsOf at *
  rw [h50, h52, h3]; exact h
theorem way_FR {c n : Nat} {P Y v v' : VV} {bn : Int32} (h : wayR n P Y v bn) (hv : FR c v v') : wayR n P Y v' bn := by
  have h50 := hv.1 50 (by omega) (by omega) (by omega) (by omega)
  have h51 := hv.1 51 (by omega) (by omega) (by omega) (by omega)
  have h52 := hv.1 52 (by omega) (by omega) (by omega) (by omega)
  have h53 := hv.1 53 (by omega) (by omega) (by omega) (by omega)
  have h54 := hv.2.1 54 (by omega)
  obtain ⟨h1, h2, h3, h4⟩ := h
  refine ⟨?_, ?_, lay_tr h3 h50 h52 (hv.2.1 3 (by omega)), ?_⟩
  · unfold linR at *; rw [h53]; exact h1
  · rw [h50, h51]; exact h2
  · rw [h54]; exact h4
/-- the sittings of the day so far -/
def dayR (c t : Nat) (S v : VV) : Prop := ∀ u, u < t → (S.2.1 13 u = v.2.1 44 (3 * c + u) ∧ (v.2.1 54 u = 0 → ¬ v.2.1 44 (3 * c + u) < 0) ∧ (u = 0 → v.2.1 44 (3 * c + u) = jmax 0 (v.2.1 10 u + v.2.1 54 u))) ∧ S.2.1 14 u = v.2.1 44 (3 * c + u) - v.2.1 10 u - v.2.1 54 u ∧ S.2.1 15 u = v.2.1 45 (3 * c + u) ∧ S.2.1 16 u = v.2.1 46 (3 * c + u) ∧ S.2.1 17 u = v.2.1 47 (3 * c + u)
/-- what the day leaves of the state -/
def stG (n : Nat) (S S' : VV) : Prop := S'.2.1 2 = S.2.1 2 ∧ S'.2.1 3 = S.2.1 3 ∧ S'.2.1 4 = S.2.1 4 ∧ (∀ p, n ≤ p → S'.2.1 6 p = S.2.1 6 p) ∧ S'.1 0 = S.1 0
theorem stG.refl (n : Nat) (S : VV) : stG n S S := ⟨rfl, rfl, rfl, fun _ _ => rfl, rfl⟩
theorem stG.trans {n : Nat} {A B C : VV} (h : stG n A B) (h' : stG n B C) : stG n A C := ⟨h'.1.trans h.1, h'.2.1.trans h.2.1, h'.2.2.1.trans h.2.2.1, fun p hp => (h'.2.2.2.1 p hp).trans (h.2.2.2.1 p hp), h'.2.2.2.2.trans h.2.2.2.2⟩
/-- the sitting that goes on: b says who stands -/
def curR (n c t : Nat) (late : Int32) (P Y S v : VV) (b : Nat → Int32) : Prop := (S.2.1 13 t = v.2.1 44 (3 * c + t) ∧ S.2.1 14 t = late ∧ S.2.1 15 t = v.2.1 45 (3 * c + t)) ∧ v.1 56 = (P.2.1 6 0 + Y.1 5) - S.2.1 15 t ∧ v.1 57 = S.2.1 17 t ∧ v.2.1 46 (3 * c + t) = sm_ (fun q => if b q = 0 then 0 else v.2.1 5 q) n ∧ (∀ q, q < 8 → b q = if bt (v.1 55) q then 1 else 0) ∧ (late = v.2.1 44 (3 * c + t) - v.2.1 10 t - v.2.1 54 t ∧ (v.2.1 54 t = 0 → ¬ v.2.1 44 (3 * c + t) < 0) ∧ (t = 0 → v.2.1 44 (3 * c + t) = jmax 0 (v.2.1 10 t + v.2.1 54 t)))
def core (n c t : Nat) (aw : Prop) (late : Int32) (P Y L0 S0 v0 L S v : VV) (b : Nat → Int32) : Prop := FR c v0 v ∧ LF L0 L ∧ carR aw c S v ∧ stG n S0 S ∧ dayR c t S v ∧ curR n c t late P Y S v b
theorem c_wk {n c t : Nat} {aw : Prop} {late : Int32} {P Y L0 S0 v0 L S v L' v' : VV} {b : Nat → Int32} (h : core n c t aw late P Y L0 S0 v0 L S v b) (hL : LF L L') (hv : wkG v v') : core n c t aw late P Y L0 S0 v0 L' S v' b := by
  obtain ⟨h1, h2, h3, h4, h5, h6⟩ := h
  refine ⟨h1.trans (FR_wk hv), h2.trans hL, ?_, h4, ?_, ?_⟩
  · unfold carR at *; rw [hv.1]; exact h3
  · unfold dayR at *; rw [hv.1]; exact h5
  · unfold curR at *; rw [hv.1, hv.2 56 (by omega), hv.2 57 (by omega), hv.2 55 (by omega)]; exact h6
theorem c_meals {n c t p : Nat} {aw : Prop} {late x x' : Int32} {P Y L0 S0 v0 L S v : VV} {b : Nat → Int32} (h : core n c t aw late P Y L0 S0 v0 L S v b) (hp : p < 8) (hx : x = x') : core n c t aw late P Y L0 S0 v0 L (sr S 5 p x) (sr v 38 (8 * c + p) x') b := by
  obtain ⟨h1, h2, ⟨a1, a2, a3, a4, a5, a6, a7, a8⟩, h4, h5, h6⟩ := h
  exact ⟨h1.trans (FR_8 38 p x' (by omega) (by omega) hp), h2, ⟨a1, a2, RE_upd a3 rfl hx, a4, a5, a6, a7, a8⟩, h4, h5, h6⟩
theorem c_cross {n c t p : Nat} {aw : Prop} {late x x' : Int32} {P Y L0 S0 v0 L S v : VV} {b : Nat → Int32} (h : core n c t aw late P Y L0 S0 v0 L S v b) (hn : n ≤ 8) (hp : p < n) (hx : x = x') : core n c t aw late P Y L0 S0 v0 L (sr S 6 p x) (sr v 39 (8 * c + p) x') b := by
  obtain ⟨h1, h2, ⟨a1, a2, a3, a4, a5, a6, a7, a8⟩, ⟨g1, g2, g3, g4, g5⟩, h5, h6⟩ := h
  exact ⟨h1.trans (FR_8 39 p x' (by omega) (by omega) (by omega)), h2, ⟨a1, a2, a3, RE_upd a4 rfl hx, a5, a6, a7, a8⟩, ⟨g1, g2, g3, fun q hq => by show upd (S.2.1 6) p x q = _; rw [pk_un (by omega)]; exact g4 q hq, g5⟩, h5, h6⟩
theorem c_away {n c t p : Nat} {aw : Prop} {late x x' : Int32} {P Y L0 S0 v0 L S v : VV} {b : Nat → Int32} (h : core n c t aw late P Y L0 S0 v0 L S v b) (hp : p < 8) (hx : aw → x = x') : core n c t aw late P Y L0 S0 v0 L (sr S 7 p x) (sr v 40 (8 * c + p) x') b := by
  obtain ⟨h1, h2, ⟨a1, a2, a3, a4, a5, a6, a7, a8⟩, h4, h5, h6⟩ := h
  exact ⟨h1.trans (FR_8 40 p x' (by omega) (by omega) hp), h2, ⟨a1, a2, a3, a4, fun w => RE_upd (a5 w) rfl (hx w), a6, a7, a8⟩, h4, h5, h6⟩
theorem c_awayC {n c t p : Nat} {aw : Prop} {late x : Int32} {P Y L0 S0 v0 L S v : VV} {b : Nat → Int32} (h : core n c t aw late P Y L0 S0 v0 L S v b) (hx : ¬ aw) : core n c t aw late P Y L0 S0 v0 L (sr S 7 p x) v b := by
  obtain ⟨h1, h2, ⟨a1, a2, a3, a4, a5, a6, a7, a8⟩, h4, h5, h6⟩ := h
  exact ⟨h1, h2, ⟨a1, a2, a3, a4, fun w => absurd w hx, a6, a7, a8⟩, h4, h5, h6⟩
theorem c_paid {n c t : Nat} {aw : Prop} {late x x' : Int32} {P Y L0 S0 v0 L S v : VV} {b : Nat → Int32} (h : core n c t aw late P Y L0 S0 v0 L S v b) (hx : x = x') : core n c t aw late P Y L0 S0 v0 L (si S 11 x) (sr v 35 c x') b := by
  obtain ⟨h1, h2, ⟨⟨d1, d2, d3, d4, d5⟩, a2, a3, a4, a5, a6, a7, a8⟩, h4, h5, h6⟩ := h
  exact ⟨h1.trans (FR_5 35 x' (by omega) (by omega)), h2, ⟨⟨d1, d2, d3, d4, by show x = upd (v.2.1 35) c x' c; rw [pk_us]; exact hx⟩, a2, a3, a4, a5, a6, a7, a8⟩, h4, h5, h6⟩
theorem c_glad {n c t : Nat} {aw : Prop} {late x x' : Int32} {P Y L0 S0 v0 L S v : VV} {b : Nat → Int32} (h : core n c t aw late P Y L0 S0 v0 L S v b) (hx : x = x') : core n c t aw late P Y L0 S0 v0 L (si S 9 x) (sr v 33 c x') b := by
  obtain ⟨h1, h2, ⟨⟨d1, d2, d3, d4, d5⟩, a2, a3, a4, a5, a6, a7, a8⟩, h4, h5, h6⟩ := h
  exact ⟨h1.trans (FR_5 33 x' (by omega) (by omega)), h2, ⟨⟨d1, d2, by show x = upd (v.2.1 33) c x' c; rw [pk_us]; exact hx, d4, d5⟩, a2, a3, a4, a5, a6, a7, a8⟩, h4, h5, h6⟩
theorem c_draw {n c t : Nat} {aw : Prop} {late x x' : Int32} {P Y L0 S0 v0 L S v : VV} {b : Nat → Int32} (h : core n c t aw late P Y L0 S0 v0 L S v b) (hx : x = x') : core n c t aw late P Y L0 S0 v0 L (si S 1 x) (sr v 36 c x') b := by
  obtain ⟨h1, h2, ⟨⟨d1, d2, d3, d4, d5⟩, a2, a3, a4, a5, a6, a7, a8⟩, h4, h5, h6⟩ := h
  exact ⟨h1.trans (FR_5 36 x' (by omega) (by omega)), h2, ⟨⟨d1, by show x = upd (v.2.1 36) c x' c; rw [pk_us]; exact hx, d3, d4, d5⟩, a2, a3, a4, a5, a6, a7, a8⟩, h4, h5, h6⟩
theorem c_sat {n c t : Nat} {aw : Prop} {late x x' l : Int32} {P Y L0 S0 v0 L S v : VV} {b : Nat → Int32} (h : core n c t aw late P Y L0 S0 v0 L S v b) (ht : t < 3) (hx : x = x') (hl : l = (P.2.1 6 0 + Y.1 5) - x) : core n c t aw late P Y L0 S0 v0 L (sr S 15 t x) (sr (si v 56 l) 45 (3 * c + t) x') b := by
  obtain ⟨h1, h2, h3, h4, h5, ⟨⟨e1, e2, e3⟩, e4, e5, e6, e7, e8⟩⟩ := h
  refine ⟨h1.trans ((FR_si 56 l (by omega)).trans (FR_3 45 t x' (by omega) (by omega) ht)), h2, h3, h4, ?_, ⟨⟨e1, e2, ?_⟩, ?_, e5, e6, e7, e8⟩⟩
  · intro u hu
    obtain ⟨g1, g2, g3, g4, g5⟩ := h5 u hu
    refine ⟨g1, g2, ?_, g4, g5⟩
    show upd (S.2.1 15) t x u = upd (v.2.1 45) (3 * c + t) x' (3 * c + u)
    rw [pk_un (by omega), pk_un (by omega)]; exact g3
  · show upd (S.2.1 15) t x t = upd (v.2.1 45) (3 * c + t) x' (3 * c + t)
    rw [pk_us, pk_us]; exact hx
  · show l = (P.2.1 6 0 + Y.1 5) - upd (S.2.1 15) t x t
    rw [pk_us]; exact hl
theorem c_ends {n c t : Nat} {aw : Prop} {late x x' : Int32} {P Y L0 S0 v0 L S v : VV} {b : Nat → Int32} (h : core n c t aw late P Y L0 S0 v0 L S v b) (hx : x' = x) : core n c t aw late P Y L0 S0 v0 L (sr S 17 t x) (si v 57 x') b := by
  obtain ⟨h1, h2, h3, h4, h5, ⟨e1, e4, e5, e6, e7, e8⟩⟩ := h
  refine ⟨h1.trans (FR_si 57 x' (by omega)), h2, h3, h4, ?_, ⟨e1, e4, ?_, e6, e7, e8⟩⟩
  · intro u hu
    obtain ⟨g1, g2, g3, g4, g5⟩ := h5 u hu
    refine ⟨g1, g2, g3, g4, ?_⟩
    show upd (S.2.1 17) t x u = _
    rw [pk_un (by omega)]; exact g5
  · show x' = upd (S.2.1 17) t x t
    rw [pk_us]; exact hx
theorem c_stand {n c t p : Nat} {aw : Prop} {late : Int32} {P Y L0 S0 v0 L S v : VV} {b : Nat → Int32} (h : core n c t aw late P Y L0 S0 v0 L S v b) (hn : n ≤ 8) (hp : p < n) (ht : t < 3) (hb : b p = 0) : core n c t aw late P Y L0 S0 v0 L S (sr (si v 55 (v.1 55 ||| ((1 : Int32) <<< (nI p &&& 31)))) 46 (3 * c + t) (v.2.1 46 (3 * c + t) + v.2.1 5 p)) (upd b p 1) := by
  obtain ⟨h1, h2, h3, h4, h5, ⟨e1, e4, e5, e6, e7, e8⟩⟩ := h
  refine ⟨h1.trans ((FR_si 55 _ (by omega)).trans (FR_3 46 t _ (by omega) (by omega) ht)), h2, h3, h4, ?_, ⟨e1, e4, e5, ?_, ?_, e8⟩⟩
  · intro u hu
    obtain ⟨g1, g2, g3, g4, g5⟩ := h5 u hu
    refine ⟨g1, g2, g3, ?_, g5⟩
    show S.2.1 16 u = upd (v.2.1 46) (3 * c + t) _ (3 * c + u)
    rw [pk_un (by omega)]; exact g4
  · show upd (v.2.1 46) (3 * c + t) _ (3 * c + t) = sm_ (fun q => if upd b p 1 q = 0 then 0 else v.2.1 5 q) n
    rw [pk_us]
    have : (fun q => if upd b p 1 q = 0 then 0 else v.2.1 5 q) = upd (fun q => if b q = 0 then 0 else v.2.1 5 q) p (v.2.1 5 p) := by
      funext q
      rw [pu_upd, pu_upd]
      by_cases e : q = p
      · rw [if_pos e, if_pos e, if_neg (by decide), e]
      · rw [if_neg e, if_neg e]
    rw [this, sm_upd n hp, if_pos hb, e6]
    grind
  · intro q hq
    show upd b p 1 q = if bt (v.1 55 ||| ((1 : Int32) <<< (nI p &&& 31))) q then 1 else 0
    rw [pu_sets _ (by omega) (by omega), pu_upd]
    by_cases e : q = p
    · rw [if_pos e]; simp [e]
    · rw [if_neg e, e7 q hq]; simp [e]
