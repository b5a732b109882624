/-! text: lines -/
variable {N n cnt : Nat} {b : Nat → Nat} {K : VV} {E : Nat → Nat}
def hk (k : Nat) : Nat := if k < 3 then 0 else if k = 3 then 9 else if k = 6 then 24 else if k < 10 then 8 else if k < 14 then 3 else if k < 16 then 64 else 0
/-- the halves that are read into -/
def up (v : VV) : VV := (v.1, fun k i => v.2.1 k (hk k + i), v.2.2)
def PF (v v' : VV) : Prop := (∀ k, k < 16 ∨ k = 25 ∨ k = 26 ∨ 28 < k → v'.1 k = v.1 k) ∧ (∀ k, k < 3 ∨ 15 < k → v'.2.1 k = v.2.1 k) ∧ (∀ k i, 3 ≤ k → k ≤ 15 → i < hk k → v'.2.1 k i = v.2.1 k i)
theorem PF.refl (v : VV) : PF v v := ⟨fun _ _ => rfl, fun _ _ => rfl, fun _ _ _ _ _ => rfl⟩
theorem PF.trans {u v w : VV} (h : PF u v) (h' : PF v w) : PF u w := ⟨fun k hk => (h'.1 k hk).trans (h.1 k hk), fun k a => (h'.2.1 k a).trans (h.2.1 k a), fun k i a b c => (h'.2.2 k i a b c).trans (h.2.2 k i a b c)⟩
theorem hk_3 : hk 3 = 9 := rfl
theorem hk_14 : hk 14 = 64 := rfl
theorem hk_15 : hk 15 = 64 := rfl
theorem PF_EF {v v' : VV} (h : EF v v') : PF v v' := by
  refine ⟨fun k hk => h.1 k (by omega), fun k hk => h.2.1 k (by omega) (by omega) (by omega), fun k i h3 h15 hi => ?_⟩
  by_cases e3 : k = 3
  · subst e3; rw [hk_3] at hi; exact h.2.2.1 i (by omega)
  by_cases e14 : k = 14
  · subst e14; rw [hk_14] at hi; exact (h.2.2.2 i hi).1
  by_cases e15 : k = 15
  · subst e15; rw [hk_15] at hi; exact (h.2.2.2 i hi).2
  rw [h.2.1 k e3 e14 e15]
theorem PF_TF {v v' : VV} (h : TF v v') : PF v v' := PF_EF (EF_TF h)
theorem PF_si {v : VV} (k : Nat) (x : Int32) (hk : 16 ≤ k ∧ k ≤ 28 ∧ k ≠ 25 ∧ k ≠ 26) : PF v (si v k x) := ⟨fun q hq => by rw [pu_si1, if_neg (by omega)], fun _ _ => rfl, fun _ _ _ _ _ => rfl⟩
theorem PF_sr {v : VV} (k i : Nat) (x : Int32) (h3 : 3 ≤ k) (h15 : k ≤ 15) (hi : hk k ≤ i) : PF v (sr v k i x) := by
  refine ⟨fun _ _ => rfl, fun q hq => by rw [pu_sr2, if_neg (by omega)], fun q j a c d => ?_⟩
  rw [pu_sr2]
  by_cases e : q = k
  · subst e; rw [if_pos rfl, pk_un (by omega)]
  · rw [if_neg e]
def swd (s : Nat) : Nat := [1, 3, 4, 5, 6, 7].getD s 0
def slo (s : Nat) : Nat := [1, 1, 0, 1, 0, 0].getD s 0
def shi (s : Nat) : Nat := [99, 99, 99, 9, 99, 99999].getD s 0
theorem s6 {s : Nat} (h : s < 6) : s = 0 ∨ s = 1 ∨ s = 2 ∨ s = 3 ∨ s = 4 ∨ s = 5 := by omega
theorem seR_iff (P v : VV) : seR P v ↔ ∀ s, s < 6 → P.2.1 6 s = v.2.1 3 (swd s) := by
  constructor
  · rintro ⟨a0, a1, a2, a3, a4, a5⟩ s hs
    rcases s6 hs with rfl | rfl | rfl | rfl | rfl | rfl
    · exact a0
    · exact a1
    · exact a2
    · exact a3
    · exact a4
    · exact a5
  · intro h
    exact ⟨h 0 (by omega), h 1 (by omega), h 2 (by omega), h 3 (by omega), h 4 (by omega), h 5 (by omega)⟩
theorem seB_iff (v : VV) : seB v ↔ ∀ s, s < 6 → ∃ x : Nat, slo s ≤ x ∧ x ≤ shi s ∧ v.2.1 3 (swd s) = nI x := by
  constructor
  · rintro ⟨⟨x0, p0, q0, r0⟩, ⟨x1, p1, q1, r1⟩, ⟨x2, q2, r2⟩, ⟨x3, p3, q3, r3⟩, ⟨x4, q4, r4⟩, ⟨x5, q5, r5⟩⟩ s hs
    rcases s6 hs with rfl | rfl | rfl | rfl | rfl | rfl
    · exact ⟨x0, p0, q0, r0⟩
    · exact ⟨x1, p1, q1, r1⟩
    · exact ⟨x2, Nat.zero_le _, q2, r2⟩
    · exact ⟨x3, p3, q3, r3⟩
    · exact ⟨x4, Nat.zero_le _, q4, r4⟩
    · exact ⟨x5, Nat.zero_le _, q5, r5⟩
  · intro h
    obtain ⟨x0, p0, q0, r0⟩ := h 0 (by omega)
    obtain ⟨x1, p1, q1, r1⟩ := h 1 (by omega)
    obtain ⟨x2, p2, q2, r2⟩ := h 2 (by omega)
    obtain ⟨x3, p3, q3, r3⟩ := h 3 (by omega)
    obtain ⟨x4, p4, q4, r4⟩ := h 4 (by omega)
    obtain ⟨x5, p5, q5, r5⟩ := h 5 (by omega)
    exact ⟨⟨x0, p0, q0, r0⟩, ⟨x1, p1, q1, r1⟩, ⟨x2, q2, r2⟩, ⟨x3, p3, q3, r3⟩, ⟨x4, q4, r4⟩, ⟨x5, q5, r5⟩⟩
def TB (q : Nat) (P L v : VV) : Prop := (∀ s, s < 6 → (P.2.1 7 s = 0 ∧ bt (v.1 16) (swd s) = false) ∨ (P.2.1 7 s = 1 ∧ bt (v.1 16) (swd s) = true)) ∧ ∀ r, r < 3 → ∃ x y : Nat, L.2.1 4 r = nI x ∧ L.2.1 5 r = nI y ∧ x ≤ 64 ∧ y ≤ q ∧ ((x < y ∧ bt (v.1 16) (16 + r) = true) ∨ (¬ x < y ∧ bt (v.1 16) (16 + r) = false))
def LI (n cnt : Nat) (b : Nat → Nat) (K : VV) (E : Nat → Nat) (a c q j : Nat) (R P L v : VV) : Prop := GS n cnt b K E 0 j q q R L v ∧ PR a c P L (up v) ∧ TB q P L v ∧ (R.1 4 = v.1 17 ∧ R.1 5 = 0 ∧ R.1 6 = -1 ∧ v.1 24 = -1)
theorem numeral_f {v : VV} (h : ¬ v.1 23 = 0) (a c : Int32) : f_X12_numeral N v a c = some (a, v) := by unfold f_X12_numeral; rw [if_neg h]
theorem num_view {k vl s w : Int32} (h : tokR k vl s w) : (k = 2 ∧ s = 2 ∧ ∃ x y : Nat, vl = nI x ∧ w = nI y ∧ numR x y) ∨ (¬ k = 2 ∧ ¬ s = 2) := by
  rcases part_view h with ⟨rfl, rfl, rfl⟩ | ⟨a, c, d⟩ | ⟨i, hi, rfl, rfl, rfl⟩ | ⟨_, a, _, _, c, _⟩
  · exact Or.inr ⟨by decide, by decide⟩
  · exact Or.inl ⟨a, c, d⟩
  · exact Or.inr ⟨(knL i hi).2.2.1, by decide⟩
  · exact Or.inr ⟨a, c⟩
theorem numeralR (h : TKS N n cnt b K E) {j l q lo hi : Nat} {R L v : VV} (hg : GS n cnt b K E 0 j l q R L v) (hlo : lo ≤ 1000) (hhi : hi ≤ 99999) : (∃ R' v', f_X7_readNumber R K (nI lo) (nI hi) = some (0, R') ∧ f_X12_numeral N v (nI lo) (nI hi) = some (nI lo, v') ∧ FT R' v' ∧ EF v v' ∧ ¬ v'.1 23 = 0) ∨ (∃ x v', lo ≤ x ∧ x ≤ hi ∧ j < cnt ∧ f_X7_readNumber R K (nI lo) (nI hi) = some (1, si (si R 3 (nI x)) 2 (nI (j + 1))) ∧ f_X12_numeral N v (nI lo) (nI hi) = some (nI x, v') ∧ TF v v' ∧ GS n cnt b K E 0 (j + 1) l q (si (si R 3 (nI x)) 2 (nI (j + 1))) L v') := by
  obtain ⟨⟨g1, g2, g3⟩, g4, g5, ⟨g6, g7⟩, ⟨g8, g8'⟩, ⟨g9, g10⟩, g11⟩ := id hg
  obtain ⟨kd, vd, rf⟩ := kindR h g5 g1
  have rf3 : ∀ x a, f_X7_refuse (si R 3 x) K a = some (0, si (si (si R 3 x) 5 a) 6 (K.2.1 1 j)) := fun x a => (kindR (R := si R 3 x) h g5 g1).2.2 a
  unfold f_X7_readNumber f_X12_numeral
  rw [kd, pu_bnd, if_pos g6]
  rcases num_view g4.2.2.2 with ⟨k1, k2, x, y, k3, k4, k5⟩ | ⟨k1, k2⟩
  · rw [if_pos k1, if_pos k2, vd, pu_bnd, k3, k4]
    obtain ⟨n1, n2, n3⟩ := k5
    have bad : ∃ R' v', f_X7_readNumber_b38 (si R 3 (nI x)) K = some (0, R') ∧ f_X12_numeral_b41 N v (nI lo) = some (nI lo, v') ∧ FT R' v' ∧ EF v v' ∧ ¬ v'.1 23 = 0 := by
      obtain ⟨r1, r2, r3⟩ := refR h hg 2 (by decide)
      refine ⟨si (si (si R 3 (nI x)) 5 2) 6 (K.2.1 1 j), si (si v 23 2) 24 (v.1 20), ?_, ?_, ⟨rfl, by show ¬ (2 : Int32) = 0; decide, r1.2.2⟩, r2, r3⟩
      · unfold f_X7_readNumber_b38; rw [rf3, pu_bnd]; rfl
      · unfold f_X12_numeral_b41 f_X12_numeral_b46; rw [wrongR g6, pu_bnd, if_neg r3]
    by_cases c1 : x < lo
    · left
      rw [if_pos (nI_lt c1 (by omega)), if_pos (nI_lt (by omega) (by omega))]
      exact bad
    · rw [if_neg (nI_nlt (by omega) (by omega)), if_neg (nI_nlt (by omega) (by omega))]
      by_cases c2 : x ≤ hi
      · right
        have hxy : x = y := by omega
        subst hxy
        have hj : j < cnt := by
          rcases Nat.lt_or_ge j cnt with hh | hh
          · exact hh
          · have e : j = cnt := by omega
            rw [e, h.2.2.2.2.2] at k1
            exact absurd k1 (by decide)
        obtain ⟨v', a1, a2, a3⟩ := AT_next h g4 hj
        rw [if_pos (nI_le c2 (by omega)), if_pos (nI_le c2 (by omega)), g5, nI_1]
        refine ⟨x, v', by omega, c2, hj, rfl, ?_, a2, ⟨hj, g2, g3⟩, a3, rfl, ⟨(a2.1 23 (by omega) (by omega) (by omega) (by omega)).trans g6, (a2.1 27 (by omega) (by omega) (by omega) (by omega)).trans g7⟩, ⟨g8, by rw [a2.2]; exact g8'⟩, ⟨g9, (a2.1 28 (by omega) (by omega) (by omega) (by omega)).trans g10⟩, fun i hi => by rw [a2.2]; exact g11 i hi⟩
        unfold f_X12_numeral_b46
        rw [if_pos g6, a1, pu_bnd, k4]
      · left
        rw [if_neg (nI_ge (by omega) (by omega)), if_neg (nI_ge (by omega) (by omega))]
        exact bad
  · left
    obtain ⟨r1, r2, r3⟩ := refR h hg 1 (by decide)
    rw [if_neg k1, if_neg k2, rf 1, pu_bnd, wrongR g6, pu_bnd]
    refine ⟨_, _, rfl, ?_, r1, r2, r3⟩
    unfold f_X12_numeral_b46
    rw [if_neg r3]
/-- the end of a line -/
theorem semi_view {k vl s w : Int32} (h : tokR k vl s w) : (k = 4 ∧ s = 3 ∧ w = 59) ∨ (¬ k = 4 ∧ ¬ (s = 3 ∧ w = 59)) := by
  rcases h with ⟨rfl, rfl⟩ | ⟨rfl, rfl⟩ | ⟨rfl, rfl, h⟩ | ⟨rfl, rfl, _⟩ | ⟨rfl, h, h44, h45⟩ | ⟨rfl, j, hj, rfl, rfl⟩
  · exact Or.inr ⟨by decide, fun h => absurd h.1 (by decide)⟩
  · exact Or.inr ⟨by decide, fun h => absurd h.1 (by decide)⟩
  · exact Or.inr ⟨by decide, fun h => absurd h.1 (by decide)⟩
  · exact Or.inr ⟨by decide, fun h => absurd h.1 (by decide)⟩
  · rcases h with ⟨rfl, rfl⟩ | ⟨rfl, rfl⟩ | ⟨rfl, rfl⟩ | h
    · exact Or.inl ⟨rfl, rfl, rfl⟩
    · exact Or.inr ⟨by decide, by decide⟩
    · exact Or.inr ⟨by decide, by decide⟩
    · refine Or.inr ?_
      rcases h with ⟨rfl, rfl⟩ | ⟨rfl, rfl⟩ | ⟨rfl, rfl⟩ | ⟨rfl, rfl⟩ | ⟨rfl, rfl⟩ | ⟨rfl, rfl⟩ | ⟨rfl, rfl⟩ | ⟨rfl, rfl⟩ | ⟨rfl, rfl⟩ | ⟨rfl, rfl⟩ | ⟨rfl, rfl⟩ | ⟨rfl, rfl⟩ <;> exact ⟨by decide, by decide⟩
  · exact Or.inr ⟨(by decide +kernel : ∀ j, j < 22 → ¬ nI (32 + pm j) = 4) j hj, fun h => absurd h.1 (by decide)⟩
/-- the outcome of a line -/
def LPO (n cnt : Nat) (b : Nat → Nat) (K : VV) (E : Nat → Nat) (j : Nat) (v : VV) (cr : Option (Int32 × VV × VV × VV)) (rr : Option VV) : Prop := ∃ z R' P' L' v', cr = some (z, R', P', L') ∧ rr = some v' ∧ PF v v' ∧ ((z = 0 ∧ FT R' v') ∨ (z = 1 ∧ ∃ a c q j', j < j' ∧ LI n cnt b K E a c q j' (si R' 4 (R'.1 4 + 1)) P' L' v'))
theorem up_TF {v v' : VV} (h : v'.2 = v.2) (k i : Nat) : (up v').2.1 k i = (up v).2.1 k i := by
  show v'.2.1 k (hk k + i) = v.2.1 k (hk k + i); rw [h]
theorem endR (h : TKS N n cnt b K E) {a c q j : Nat} {R P L v : VV} (hl : LI n cnt b K E a c q j R P L v) : LPO n cnt b K E j v (f_X7_readLine_b77 N R K P L 1) (f_X12_line_b355 N v) := by
  obtain ⟨hg, hP, hT, r4, r5, r6, r7⟩ := hl
  obtain ⟨⟨g1, g2, g3⟩, g4, g5, ⟨g6, g7⟩, ⟨g8, g8'⟩, ⟨g9, g10⟩, g11⟩ := id hg
  obtain ⟨kd, vd, rf⟩ := kindR h g5 g1
  unfold f_X7_readLine_b77 f_X12_line_b355 f_X7_expect f_X12_line_b384
  rw [if_neg (by decide), kd, pu_bnd, if_pos g6, isSg g6, pu_bnd]
  rcases semi_view g4.2.2.2 with ⟨k1, k2, k3⟩ | ⟨k1, k2⟩
  · have hj : j < cnt := by
      rcases Nat.lt_or_ge j cnt with hh | hh
      · exact hh
      · have e : j = cnt := by omega
        rw [e, h.2.2.2.2.2] at k1
        exact absurd k1 (by decide)
    obtain ⟨v', a1, a2, a3⟩ := AT_next h g4 hj
    rw [if_pos k1, pu_bnd, if_neg (by show ¬ (1 : Int32) = 0; decide), show (if v.1 21 = 3 ∧ v.1 22 = 59 then (1 : Int32) else 0) = 1 from if_pos ⟨k2, k3⟩, if_neg (by decide), a1, pu_bnd, g5, nI_1]
    have e17 : v'.1 17 = v.1 17 := a2.1 17 (by omega) (by omega) (by omega) (by omega)
    have e16 : v'.1 16 = v.1 16 := a2.1 16 (by omega) (by omega) (by omega) (by omega)
    refine ⟨1, _, P, L, _, rfl, rfl, (PF_TF a2).trans (PF_si 17 _ (by omega)), Or.inr ⟨rfl, a, c, q, j + 1, by omega, ⟨⟨hj, g2, g3⟩, a3, rfl, ⟨(a2.1 23 (by omega) (by omega) (by omega) (by omega)).trans g6, (a2.1 27 (by omega) (by omega) (by omega) (by omega)).trans g7⟩, ⟨g8, by show v'.2.1 3 17 = _; rw [a2.2]; exact g8'⟩, ⟨g9, (a2.1 28 (by omega) (by omega) (by omega) (by omega)).trans g10⟩, fun i hi => by show kc _ _ (v'.2.1 14 (64 + i)) (v'.2.1 15 (64 + i)); rw [a2.2]; exact g11 i hi⟩, PR_tr hP (fun k _ => by funext i; exact up_TF a2.2 k i) rfl (fun _ _ => rfl), ?_, ?_, r5, r6, (a2.1 24 (by omega) (by omega) (by omega) (by omega)).trans r7⟩⟩
    · unfold TB at *
      show (∀ s, s < 6 → (P.2.1 7 s = 0 ∧ bt (v'.1 16) (swd s) = false) ∨ (P.2.1 7 s = 1 ∧ bt (v'.1 16) (swd s) = true)) ∧ ∀ r, r < 3 → ∃ x y : Nat, L.2.1 4 r = nI x ∧ L.2.1 5 r = nI y ∧ x ≤ 64 ∧ y ≤ q ∧ ((x < y ∧ bt (v'.1 16) (16 + r) = true) ∨ (¬ x < y ∧ bt (v'.1 16) (16 + r) = false))
      rw [e16]; exact hT
    · show R.1 4 + 1 = v'.1 17 + 1
      rw [e17, r4]
  · obtain ⟨q1, q2, q3⟩ := refR h hg 1 (by decide)
    rw [if_neg k1, rf 1, pu_bnd, show (if v.1 21 = 3 ∧ v.1 22 = 59 then (1 : Int32) else 0) = 0 from if_neg k2, if_pos rfl, wrongR g6, pu_bnd]
    refine ⟨0, _, P, L, _, rfl, rfl, (PF_EF q2).trans (PF_si 17 _ (by omega)), Or.inl ⟨rfl, q1⟩⟩
theorem b355_f {v : VV} (h : ¬ v.1 23 = 0) : f_X12_line_b355 N v = some v := by unfold f_X12_line_b355; rw [if_neg h]
theorem b77_0 (R P L : VV) : f_X7_readLine_b77 N R K P L 0 = some (0, R, P, L) := by unfold f_X7_readLine_b77; rw [if_pos rfl]
/-- the word of a line, and the next token -/
theorem wordNext (h : TKS N n cnt b K E) {a c q j w : Nat} {R P L v : VV} (hl : LI n cnt b K E a c q j R P L v) (hj : j < cnt) (hw : w < 31) : ∃ v1, f_X12_token N (si v 16 (v.1 16 ||| ((1 : Int32) <<< (nI w &&& 31)))) = some v1 ∧ GS n cnt b K E 0 (j + 1) q q (si R 2 (nI (j + 1))) L v1 ∧ v1.2 = v.2 ∧ (∀ k, k ≠ 16 → k ≠ 19 → k ≠ 20 → k ≠ 21 → k ≠ 22 → v1.1 k = v.1 k) ∧ (∀ i, i < 32 → bt (v1.1 16) i = (bt (v.1 16) i || decide (i = w))) ∧ PF v v1 := by
  obtain ⟨hg, hP, hT, r4, r5, r6, r7⟩ := hl
  obtain ⟨⟨g1, g2, g3⟩, g4, g5, ⟨g6, g7⟩, ⟨g8, g8'⟩, ⟨g9, g10⟩, g11⟩ := id hg
  have ha : AT n b K E j (si v 16 (v.1 16 ||| ((1 : Int32) <<< (nI w &&& 31)))) := g4
  obtain ⟨v1, a1, a2, a3⟩ := AT_next h ha hj
  refine ⟨v1, a1, ⟨⟨hj, g2, g3⟩, a3, rfl, ⟨(a2.1 23 (by omega) (by omega) (by omega) (by omega)).trans g6, (a2.1 27 (by omega) (by omega) (by omega) (by omega)).trans g7⟩, ⟨g8, by rw [a2.2]; exact g8'⟩, ⟨g9, (a2.1 28 (by omega) (by omega) (by omega) (by omega)).trans g10⟩, fun i hi => by rw [a2.2]; exact g11 i hi⟩, a2.2, fun k h1 h2 h3 h4 h5 => ?_, fun i hi => ?_, (PF_si 16 _ (by omega)).trans (PF_TF a2)⟩
  · rw [a2.1 k h2 h3 h4 h5, pu_si1, if_neg h1]
  · rw [a2.1 16 (by omega) (by omega) (by omega) (by omega)]
    show bt (v.1 16 ||| ((1 : Int32) <<< (nI w &&& 31))) i = _
    exact pu_sets (v.1 16) (by omega) hi
