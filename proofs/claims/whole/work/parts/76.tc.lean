/-! text: a party; any line; all of them -/
variable {N n cnt : Nat} {b : Nat → Nat} {K : VV} {E : Nat → Nat}
def rwt (u : Nat) : Nat := [5, 6, 6, 6, 7, 8, 9].getD u 0
def tlo (u : Nat) : Nat := [1, 0, 0, 0, 0, 0, 0].getD u 0
def thi (u : Nat) : Nat := [9, 9, 9, 9, 999, 99, 100].getD u 0
def ixt (a u : Nat) : Nat := if u = 1 then 24 + 3 * a else if u = 2 then 24 + 3 * a + 1 else if u = 3 then 24 + 3 * a + 2 else 8 + a
def pst (N row idx : Nat) (lo hi : Int32) (v : VV) : Option VV := bnd (f_X12_numeral N v lo hi) (fun q => some (sr q.2 row idx q.1))
/-- what is left of a party's line in the reference -/
def ptl (N a : Nat) : Nat → VV → Option VV
  | 0, v => some (sr v 3 9 (v.2.1 3 9 + 1))
  | m + 1, v => bnd (pst N (rwt (6 - m)) (ixt a (6 - m)) (nI (tlo (6 - m))) (nI (thi (6 - m))) v) (ptl N a m)
theorem rwt_b : ∀ u, u < 7 → 5 ≤ rwt u ∧ rwt u ≤ 9 ∧ tlo u ≤ 1000 ∧ thi u ≤ 999 ∧ (evC 0).getD u 0 = nI (tlo u) ∧ (evC 1).getD u 0 = nI (thi u) := by decide +kernel
theorem rwt_inj (u : Nat) (hu : u < 7) (t : Nat) (ht : t < 7) (h : u < t ∧ rwt u = rwt t) : (u = 1 ∧ t = 2) ∨ (u = 1 ∧ t = 3) ∨ (u = 2 ∧ t = 3) := by
  have hu' : u = 0 ∨ u = 1 ∨ u = 2 ∨ u = 3 ∨ u = 4 ∨ u = 5 ∨ u = 6 := by omega
  have ht' : t = 0 ∨ t = 1 ∨ t = 2 ∨ t = 3 ∨ t = 4 ∨ t = 5 ∨ t = 6 := by omega
  obtain ⟨h1, h2⟩ := h
  rcases hu' with rfl | rfl | rfl | rfl | rfl | rfl | rfl <;> rcases ht' with rfl | rfl | rfl | rfl | rfl | rfl | rfl <;> first | omega | exact absurd h2 (by decide)
theorem rwt_hk {a u : Nat} (hu : u < 7) : hk (rwt u) ≤ ixt a u := by
  have : u = 0 ∨ u = 1 ∨ u = 2 ∨ u = 3 ∨ u = 4 ∨ u = 5 ∨ u = 6 := by omega
  rcases this with rfl | rfl | rfl | rfl | rfl | rfl | rfl
  · show 8 ≤ 8 + a; omega
  · show 24 ≤ 24 + 3 * a; omega
  · show 24 ≤ 24 + 3 * a + 1; omega
  · show 24 ≤ 24 + 3 * a + 2; omega
  · show 8 ≤ 8 + a; omega
  · show 8 ≤ 8 + a; omega
  · show 8 ≤ 8 + a; omega
theorem ptl_f (N a : Nat) : ∀ m, m ≤ 7 → ∀ v, ¬ v.1 23 = 0 → ∃ v', ptl N a m v = some v' ∧ v'.1 = v.1 ∧ PF v v' := by
  intro m
  induction m with
  | zero => intro _ v hv; exact ⟨_, rfl, rfl, PF_sr 3 9 _ (by omega) (by omega) (by rw [hk_3]; omega)⟩
  | succ m ih =>
    intro hm v hv
    obtain ⟨r1, r2, _⟩ := rwt_b (6 - m) (by omega)
    obtain ⟨v', p1, p2, p3⟩ := ih (by omega) (sr v (rwt (6 - m)) (ixt a (6 - m)) (nI (tlo (6 - m)))) hv
    refine ⟨v', ?_, p2, (PF_sr _ _ _ (by omega) (by omega) (rwt_hk (by omega))).trans p3⟩
    show bnd (pst N (rwt (6 - m)) (ixt a (6 - m)) (nI (tlo (6 - m))) (nI (thi (6 - m))) v) (ptl N a m) = _
    unfold pst
    rw [numeral_f hv, pu_bnd, pu_bnd]
    exact p1
theorem itr_b {σ ρ α : Type} {A : σ → Option (σ ⊕ ρ)} {k : Nat} {s : σ} {o : Option α} {f : α → σ} (hk : 0 < k) (h : A s = bnd o (fun q => some (.inl (f q)))) : itr A k s = bnd o (fun q => itr A (k - 1) (f q)) := by
  cases o with
  | none =>
    obtain ⟨m, rfl⟩ : ∃ m, k = m + 1 := ⟨k - 1, by omega⟩
    unfold itr
    rw [h]; rfl
  | some y => exact itr_s hk h
theorem itr_x {σ ρ : Type} {A : σ → Option (σ ⊕ ρ)} {k : Nat} {s : σ} {o : Option ρ} (hk : 0 < k) (h : A s = inrO o) : itr A k s = o := by
  cases o with
  | none =>
    obtain ⟨m, rfl⟩ : ∃ m, k = m + 1 := ⟨k - 1, by omega⟩
    unfold itr
    rw [h]; rfl
  | some y => exact itr_e hk h
theorem ptl_eq (N : Nat) (hN : 2000 < N) {a : Nat} (ha : a < 8) (v : VV) : bnd (f_X12_numeral N v 1 9) (fun q5 => gin (nI (8 + a)) 16 (itr (fun q : Int32 × VV => f_X12_partyLine_s36 N q.2 (nI (8 + a)) q.1) N (0, sr q5.2 5 (nI (8 + a)).toNatClampNeg q5.1))) = ptl N a 7 v := by
  show _ = bnd (bnd (f_X12_numeral N v 1 9) (fun q => some (sr q.2 5 (8 + a) q.1))) (ptl N a 6)
  rw [bnd_as]
  congr 1
  funext q5
  rw [pu_bnd, pu_gin (show 8 + a < 16 by omega) (show 16 < 2 ^ 31 by omega), nI_clamp (show 8 + a < 2 ^ 31 by omega)]
  have st : ∀ (t : Nat) (w : VV), t < 3 → f_X12_partyLine_s36 N w (nI (8 + a)) (nI t) = bnd (f_X12_numeral N w 0 9) (fun q => some (.inl (nI (t + 1), sr q.2 6 (24 + 3 * a + t) q.1))) := by
    intro t w ht
    unfold f_X12_partyLine_s36
    rw [if_neg (show ¬ (3 : Int32) ≤ nI (t) from nI_ge (a := t) (b := 3) (by omega) (by omega)), pu_3, show 3 * (8 + a) + t = 24 + 3 * a + t by omega, nI_1]
    congr 1
    funext q
    rw [pu_gin (show 24 + 3 * a + t < 48 by omega) (show 48 < 2 ^ 31 by omega), nI_clamp (show 24 + 3 * a + t < 2 ^ 31 by omega)]
  have e1 : ∀ w, itr (fun q : Int32 × VV => f_X12_partyLine_s36 N q.2 (nI (8 + a)) q.1) N (nI 0, w) = ptl N a 6 w := by
    intro w
    rw [itr_b (A := fun q : Int32 × VV => f_X12_partyLine_s36 N q.2 (nI (8 + a)) q.1) (by omega) (st 0 w (by omega))]
    show _ = bnd (bnd (f_X12_numeral N w 0 9) (fun q => some (sr q.2 6 (24 + 3 * a) q.1))) (ptl N a 5)
    rw [bnd_as]
    congr 1
    funext q6
    rw [pu_bnd, itr_b (A := fun q : Int32 × VV => f_X12_partyLine_s36 N q.2 (nI (8 + a)) q.1) (by omega) (st 1 _ (by omega))]
    show _ = bnd (bnd (f_X12_numeral N _ 0 9) (fun q => some (sr q.2 6 (24 + 3 * a + 1) q.1))) (ptl N a 4)
    rw [bnd_as]
    congr 1
    funext q7
    rw [pu_bnd, itr_b (A := fun q : Int32 × VV => f_X12_partyLine_s36 N q.2 (nI (8 + a)) q.1) (by omega) (st 2 _ (by omega))]
    show _ = bnd (bnd (f_X12_numeral N _ 0 9) (fun q => some (sr q.2 6 (24 + 3 * a + 2) q.1))) (ptl N a 3)
    rw [bnd_as]
    congr 1
    funext q8
    rw [pu_bnd]
    refine itr_x (A := fun q : Int32 × VV => f_X12_partyLine_s36 N q.2 (nI (8 + a)) q.1) (by omega) ?_
    show f_X12_partyLine_s36 N _ (nI (8 + a)) (nI (2 + 1)) = _
    unfold f_X12_partyLine_s36
    rw [if_pos (show (3 : Int32) ≤ nI (2 + 1) by decide)]
    congr 1
    show _ = bnd (bnd (f_X12_numeral N _ 0 999) (fun q => some (sr q.2 7 (8 + a) q.1))) (ptl N a 2)
    rw [bnd_as]
    congr 1
    funext q9
    rw [pu_bnd, pu_gin (show 8 + a < 16 by omega) (show 16 < 2 ^ 31 by omega), nI_clamp (show 8 + a < 2 ^ 31 by omega)]
    show _ = bnd (bnd (f_X12_numeral N _ 0 99) (fun q => some (sr q.2 8 (8 + a) q.1))) (ptl N a 1)
    rw [bnd_as]
    congr 1
    funext q10
    rw [pu_bnd, pu_gin (show 8 + a < 16 by omega) (show 16 < 2 ^ 31 by omega)]
    show _ = bnd (bnd (f_X12_numeral N _ 0 100) (fun q => some (sr q.2 9 (8 + a) q.1))) (ptl N a 0)
    rw [bnd_as]
    congr 1
    funext q11
    rw [pu_bnd, pu_gin (show 8 + a < 16 by omega) (show 16 < 2 ^ 31 by omega)]
    have f0 : ∀ w : VV, f_X12_fresher w 0 = some (w.2.1 3 9) := fun w => fresherR w 0 (by omega)
    have f1 : ∀ (w : VV) x, f_X12_reads w 0 x = some (sr w 3 9 x) := fun w x => readsR w 0 x (by omega)
    rw [f0, pu_bnd, f1, pu_bnd]
    rfl
  exact e1 _
/-- the numbers of a party -/
theorem traitsR (h : TKS N n cnt b K E) (P0 v0 : VV) {a q : Nat} (x1 : Int32) (ha : a < 8) : ∀ m t fu j R P L v, t + m = 7 → m < fu → GS n cnt b K E 0 j q q R L v → (P.1 = P0.1 ∧ ∀ k, k ≠ 100 + a → P.2.1 k = P0.2.1 k) → (∀ k, k ≠ 19 → k ≠ 20 → k ≠ 21 → k ≠ 22 → v.1 k = v0.1 k) → (∀ k i, (k < 5 ∨ 9 < k ∨ (k = 6 ∧ i < 24 + 3 * a) ∨ (k ≠ 6 ∧ i ≠ 8 + a)) → v.2.1 k i = v0.2.1 k i) → PF v0 v → (∀ u, u < t → ∃ x : Nat, tlo u ≤ x ∧ x ≤ thi u ∧ P.2.1 (100 + a) u = nI x ∧ v.2.1 (rwt u) (ixt a u) = nI x) → P0.1 0 = nI a → v0.2.1 3 9 = nI a →
    ∃ z R' P' v', itr (fun y : Int32 × VV × VV => f_X7_readParty_s85 N y.2.1 K y.2.2 L x1 (nI a) y.1) fu (nI t, R, P) = some (z, R', P') ∧ ptl N a m v = some v' ∧ PF v0 v' ∧ ((z = 0 ∧ FT R' v') ∨ (z = 1 ∧ ∃ j' P2 v2, P' = si (sr P2 1 a x1) 0 (nI (a + 1)) ∧ v' = sr v2 3 9 (nI (a + 1)) ∧ j ≤ j' ∧ GS n cnt b K E 0 j' q q R' L v2 ∧ (∀ k, k ≠ 2 → k ≠ 3 → R'.1 k = R.1 k) ∧ (P2.1 = P0.1 ∧ ∀ k, k ≠ 100 + a → P2.2.1 k = P0.2.1 k) ∧ (∀ k, k ≠ 19 → k ≠ 20 → k ≠ 21 → k ≠ 22 → v2.1 k = v0.1 k) ∧ (∀ k i, (k < 5 ∨ 9 < k ∨ (k = 6 ∧ i < 24 + 3 * a) ∨ (k ≠ 6 ∧ i ≠ 8 + a)) → v2.2.1 k i = v0.2.1 k i) ∧ ∀ u, u < 7 → ∃ x : Nat, tlo u ≤ x ∧ x ≤ thi u ∧ P2.2.1 (100 + a) u = nI x ∧ v2.2.1 (rwt u) (ixt a u) = nI x)) := by
  intro m
  induction m with
  | zero =>
    intro t fu j R P L v ht hfu hg hP hs hr hpf hx hP0 hv0
    have : t = 7 := by omega
    subst this
    have e9 : v.2.1 3 9 = nI a := by rw [hr 3 9 (by omega)]; exact hv0
    refine ⟨1, R, si (sr P 1 a x1) 0 (nI (a + 1)), sr v 3 9 (nI (a + 1)), itr_e hfu ?_, ?_, hpf.trans (PF_sr 3 9 _ (by omega) (by omega) (by rw [hk_3]; omega)), Or.inr ⟨rfl, j, P, v, rfl, rfl, Nat.le_refl j, hg, fun _ _ _ => rfl, hP, hs, hr, hx⟩⟩
    · show f_X7_readParty_s85 N R K P L x1 (nI a) (nI 7) = _
      unfold f_X7_readParty_s85
      rw [if_pos (show (7 : Int32) ≤ nI 7 by decide), pu_gin (show a < 8 by omega) (show 8 < 2 ^ 31 by omega), nI_clamp (show a < 2 ^ 31 by omega), hP.1, hP0, nI_1, pu_inrO]
    · show some (sr v 3 9 (v.2.1 3 9 + 1)) = _
      rw [e9, nI_1]
  | succ m ih =>
    intro t fu j R P L v ht hfu hg hP hs hr hpf hx hP0 hv0
    have et : 6 - m = t := by omega
    obtain ⟨w1, w2, w3, w4, w5, w6⟩ := rwt_b t (by omega)
    have epl : ptl N a (m + 1) v = bnd (pst N (rwt t) (ixt a t) (nI (tlo t)) (nI (thi t)) v) (ptl N a m) := by
      show bnd (pst N (rwt (6 - m)) (ixt a (6 - m)) (nI (tlo (6 - m))) (nI (thi (6 - m))) v) (ptl N a m) = _
      rw [et]
    rw [epl]
    unfold pst
    rcases numeralR h hg w3 (show thi t ≤ 99999 by omega) with ⟨R', v', n1, n2, n3, n4, n5⟩ | ⟨x, v', y1, y2, y3, n1, n2, n3, n4⟩
    · obtain ⟨v2, p1, p2, p3⟩ := ptl_f N a m (by omega) (sr v' (rwt t) (ixt a t) (nI (tlo t))) n5
      rw [n2, pu_bnd, pu_bnd]
      refine ⟨0, R', P, v2, itr_e (by omega) ?_, p1, ((hpf.trans (PF_EF n4)).trans (PF_sr _ _ _ (by omega) (by omega) (rwt_hk (by omega)))).trans p3, Or.inl ⟨rfl, ?_⟩⟩
      · show f_X7_readParty_s85 N R K P L x1 (nI a) (nI t) = _
        unfold f_X7_readParty_s85
        rw [if_neg (show ¬ (7 : Int32) ≤ nI (t) from nI_ge (a := t) (b := 7) (by omega) (by omega)), pu_gin (show t < 7 by omega) (show 7 < 2 ^ 31 by omega), pu_gin (show t < 7 by omega) (show 7 < 2 ^ 31 by omega), nI_clamp (show t < 2 ^ 31 by omega), w5, w6, n1, pu_bnd, if_pos rfl, pu_inrO]
      · unfold FT; rw [p2]; exact n3
    · rw [n2, pu_bnd, pu_bnd]
      have hne : ∀ k i, (k < 5 ∨ 9 < k ∨ (k = 6 ∧ i < 24 + 3 * a) ∨ (k ≠ 6 ∧ i ≠ 8 + a)) → ¬ (k = rwt t ∧ i = ixt a t) := by
        intro k i hki hh
        obtain ⟨h1, h2⟩ := hh
        have : t = 0 ∨ t = 1 ∨ t = 2 ∨ t = 3 ∨ t = 4 ∨ t = 5 ∨ t = 6 := by omega
        rcases this with rfl | rfl | rfl | rfl | rfl | rfl | rfl
        · have e1 : k = 5 := h1
          have e2 : i = 8 + a := h2
          omega
        · have e1 : k = 6 := h1
          have e2 : i = 24 + 3 * a := h2
          omega
        · have e1 : k = 6 := h1
          have e2 : i = 24 + 3 * a + 1 := h2
          omega
        · have e1 : k = 6 := h1
          have e2 : i = 24 + 3 * a + 2 := h2
          omega
        · have e1 : k = 7 := h1
          have e2 : i = 8 + a := h2
          omega
        · have e1 : k = 8 := h1
          have e2 : i = 8 + a := h2
          omega
        · have e1 : k = 9 := h1
          have e2 : i = 8 + a := h2
          omega
      have srE : ∀ k i, (sr v' (rwt t) (ixt a t) (nI x)).2.1 k i = if k = rwt t ∧ i = ixt a t then nI x else v.2.1 k i := by
        intro k i
        rw [pu_sr2, n3.2]
        by_cases e1 : k = rwt t
        · rw [if_pos e1, pu_upd]
          by_cases e2 : i = ixt a t
          · rw [if_pos e2, if_pos ⟨e1, e2⟩]
          · rw [if_neg e2, if_neg (fun hh => e2 hh.2), e1]
        · rw [if_neg e1, if_neg (fun hh => e1 hh.1)]
      have smE : ∀ k i, (sm P a t (nI x)).2.1 k i = if k = 100 + a ∧ i = t then nI x else P.2.1 k i := by
        intro k i
        show (if 100 ≤ k then (if k = 100 + a then upd (P.2.1 (100 + a)) t (nI x) else P.2.1 k) else P.2.1 k) i = _
        by_cases e1 : k = 100 + a
        · rw [if_pos (by omega), if_pos e1, pu_upd]
          by_cases e2 : i = t
          · rw [if_pos e2, if_pos ⟨e1, e2⟩]
          · rw [if_neg e2, if_neg (fun hh => e2 hh.2), e1]
        · rw [if_neg (show ¬ (k = 100 + a ∧ i = t) from fun hh => e1 hh.1), if_neg e1, ite_self]
      have inj : ∀ u, u < t → ¬ (rwt u = rwt t ∧ ixt a u = ixt a t) := by
        intro u hu hh
        rcases rwt_inj u (by omega) t (by omega) ⟨hu, hh.1⟩ with ⟨rfl, rfl⟩ | ⟨rfl, rfl⟩ | ⟨rfl, rfl⟩
        · have e : 24 + 3 * a = 24 + 3 * a + 1 := hh.2
          omega
        · have e : 24 + 3 * a = 24 + 3 * a + 2 := hh.2
          omega
        · have e : 24 + 3 * a + 1 = 24 + 3 * a + 2 := hh.2
          omega
      have hg' : GS n cnt b K E 0 (j + 1) q q (si (si R 3 (nI x)) 2 (nI (j + 1))) L (sr v' (rwt t) (ixt a t) (nI x)) := by
        obtain ⟨m1, m4, m5, m6, ⟨m8, m8'⟩, m9, m11⟩ := id n4
        refine ⟨m1, ⟨⟨m4.1.1, fun i hi => ?_⟩, m4.2⟩, m5, m6, ⟨m8, ?_⟩, m9, fun i hi => ?_⟩
        · rw [srE, if_neg (fun hh => by have := hh.1; omega), ← n3.2]; exact m4.1.2 i hi
        · rw [srE, if_neg (fun hh => by have := hh.1; omega), ← n3.2]; exact m8'
        · rw [srE, srE, if_neg (fun hh => by have := hh.1; omega), if_neg (fun hh => by have := hh.1; omega), ← n3.2]; exact m11 i hi
      have hPk : ∀ k, k ≠ 100 + a → (sm P a t (nI x)).2.1 k = P0.2.1 k := by
        intro k hk
        funext i
        rw [smE, if_neg (fun hh => hk hh.1)]
        exact congrFun (hP.2 k hk) i
      have hxu : ∀ u, u < t + 1 → ∃ x' : Nat, tlo u ≤ x' ∧ x' ≤ thi u ∧ (sm P a t (nI x)).2.1 (100 + a) u = nI x' ∧ (sr v' (rwt t) (ixt a t) (nI x)).2.1 (rwt u) (ixt a u) = nI x' := by
        intro u hu
        by_cases e : u = t
        · subst e
          exact ⟨x, y1, y2, by rw [smE, if_pos ⟨rfl, rfl⟩], by rw [srE, if_pos ⟨rfl, rfl⟩]⟩
        · obtain ⟨x', k1, k2, k3, k4⟩ := hx u (by omega)
          exact ⟨x', k1, k2, by rw [smE, if_neg (fun hh => e hh.2)]; exact k3, by rw [srE, if_neg (inj u (by omega))]; exact k4⟩
      obtain ⟨z, R', P', v2, i1, i2, i3, i4⟩ := ih (t + 1) (fu - 1) (j + 1) _ (sm P a t (nI x)) L (sr v' (rwt t) (ixt a t) (nI x)) (by omega) (by omega) hg' ⟨hP.1, hPk⟩ (fun k h1 h2 h3 h4 => (n3.1 k h1 h2 h3 h4).trans (hs k h1 h2 h3 h4)) (fun k i hki => by rw [srE, if_neg (hne k i hki)]; exact hr k i hki) ((hpf.trans (PF_TF n3)).trans (PF_sr _ _ _ (by omega) (by omega) (rwt_hk (by omega)))) hxu hP0 hv0
      refine ⟨z, R', P', v2, ?_, i2, i3, ?_⟩
      · rw [itr_s (by omega) (t := (nI (t + 1), si (si R 3 (nI x)) 2 (nI (j + 1)), sm P a t (nI x))) ?_]
        · exact i1
        · show f_X7_readParty_s85 N R K P L x1 (nI a) (nI t) = _
          unfold f_X7_readParty_s85
          rw [if_neg (show ¬ (7 : Int32) ≤ nI (t) from nI_ge (a := t) (b := 7) (by omega) (by omega)), pu_gin (show t < 7 by omega) (show 7 < 2 ^ 31 by omega), pu_gin (show t < 7 by omega) (show 7 < 2 ^ 31 by omega), nI_clamp (show t < 2 ^ 31 by omega), w5, w6, n1, pu_bnd, if_neg (by show ¬ (1 : Int32) = 0; decide), pu_gin (show a < 8 by omega) (show 8 < 2 ^ 31 by omega), pu_gin (show t < 7 by omega) (show 7 < 2 ^ 31 by omega), nI_clamp (show a < 2 ^ 31 by omega), nI_1]
          rfl
      · rcases i4 with i5 | ⟨i5, j', P2, v3, i6, i7, i8, i9, i10, i11⟩
        · exact Or.inl i5
        · exact Or.inr ⟨i5, j', P2, v3, i6, i7, by omega, i9, fun k h2 h3 => (i10 k h2 h3).trans (by show (if k = 2 then _ else if k = 3 then _ else R.1 k) = R.1 k; rw [if_neg h2, if_neg h3]), i11⟩
