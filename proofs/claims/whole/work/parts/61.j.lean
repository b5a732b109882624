/-! feed; swap -/
theorem byte_ok (w : Int32) : bytR (w.toInt8.toInt32) (w &&& 255) := by
  have hb : w.toBitVec.toNat % 256 < 256 := Nat.mod_lt _ (by omega)
  have hc : w.toInt = if 2 * w.toBitVec.toNat < 2 ^ 32 then (w.toBitVec.toNat : Int) else (w.toBitVec.toNat : Int) - ((2 ^ 32 : Nat) : Int) := BitVec.toInt_eq_toNat_cond w.toBitVec
  refine ⟨w.toBitVec.toNat % 256, hb, pk_and w 8 (by decide), ?_⟩
  apply Int32.toInt_inj.mp
  rw [lg_i2b_toInt, Int.bmod_def]
  by_cases h1 : w.toBitVec.toNat % 256 < 128
  · rw [if_pos h1, nI_toInt (by omega)]
    by_cases h2 : 2 * w.toBitVec.toNat < 2 ^ 32
    · rw [if_pos h2] at hc; rw [hc]; split <;> omega
    · rw [if_neg h2] at hc; rw [hc]; split <;> omega
  · rw [if_neg h1, show (256 : Int32) = nI 256 from rfl, pk_sub_toInt (by omega) (by omega)]
    by_cases h2 : 2 * w.toBitVec.toNat < 2 ^ 32
    · rw [if_pos h2] at hc; rw [hc]; split <;> omega
    · rw [if_neg h2] at hc; rw [hc]; split <;> omega
theorem app1 (N : Nat) {X : VV} {T : Nat → Int32} {k : Nat} (a x2 : Int32) (hk : k < 700) (hX : X.1 1 = nI k) (h0 : ¬ x2 < 0) : f_X11_append_s3 N X T a x2 = some (.inl (x2 + (-8), si X 1 (nI (k + 1)), upd T k ((a >>> (x2 &&& 31)).toInt8.toInt32))) := by
  unfold f_X11_append_s3 f_X11_append_b40
  rw [if_neg h0, hX, if_neg (show ¬ (700 : Int32) ≤ nI (k) from nI_ge (a := k) (b := 700) (by omega) (by omega)), pu_gin (show k < 700 by omega) (show 700 < 2 ^ 31 by omega), nI_clamp (show k < 2 ^ 31 by omega), nI_1]
def appF (N : Nat) (a : Int32) (q : Int32 × VV × (Nat → Int32)) : Option ((Int32 × VV × (Nat → Int32)) ⊕ (VV × (Nat → Int32))) := f_X11_append_s3 N q.2.1 q.2.2 a q.1
theorem appR (N : Nat) (hN : 66 < N) {X : VV} {T : Nat → Int32} {k : Nat} (a : Int32) (hk : k + 4 ≤ 700) (hX : X.1 1 = nI k) : ∃ X' T', f_X11_append N X T a = some (X', T') ∧ X'.1 1 = nI (k + 4) ∧ X'.1 6 = X.1 6 ∧ (∀ i, i < k → T' i = T i) ∧ ∀ r, r < 4 → T' (k + r) = (a >>> (nI (24 - 8 * r) &&& 31)).toInt8.toInt32 := by
  have s1 := app1 N (X := X) (T := T) a 24 (show k < 700 by omega) hX (by decide)
  have s2 := app1 N (T := upd T k ((a >>> ((24 : Int32) &&& 31)).toInt8.toInt32)) (X := si X 1 (nI (k + 1))) a (24 + (-8)) (show k + 1 < 700 by omega) rfl (by decide)
  have s3 := app1 N (T := upd (upd T k ((a >>> ((24 : Int32) &&& 31)).toInt8.toInt32)) (k + 1) ((a >>> ((24 + (-8) : Int32) &&& 31)).toInt8.toInt32)) (X := si (si X 1 (nI (k + 1))) 1 (nI (k + 1 + 1))) a (24 + (-8) + (-8)) (show k + 1 + 1 < 700 by omega) rfl (by decide)
  have s4 := app1 N (T := upd (upd (upd T k ((a >>> ((24 : Int32) &&& 31)).toInt8.toInt32)) (k + 1) ((a >>> ((24 + (-8) : Int32) &&& 31)).toInt8.toInt32)) (k + 1 + 1) ((a >>> ((24 + (-8) + (-8) : Int32) &&& 31)).toInt8.toInt32)) (X := si (si (si X 1 (nI (k + 1))) 1 (nI (k + 1 + 1))) 1 (nI (k + 1 + 1 + 1))) a (24 + (-8) + (-8) + (-8)) (show k + 1 + 1 + 1 < 700 by omega) rfl (by decide)
  have t1 := itr_s (A := appF N a) (n := N) (s := (24, X, T)) (by omega) s1
  have t2 := itr_s (A := appF N a) (n := N - 1) (s := (24 + (-8), _, _)) (by omega) s2
  have t3 := itr_s (A := appF N a) (n := N - 1 - 1) (s := (24 + (-8) + (-8), _, _)) (by omega) s3
  have t4 := itr_s (A := appF N a) (n := N - 1 - 1 - 1) (s := (24 + (-8) + (-8) + (-8), _, _)) (by omega) s4
  have tt := t1.trans (t2.trans (t3.trans t4))
  have ef : f_X11_append N X T a = itr (appF N a) N (24, X, T) := rfl
  have ex : ∀ (X' : VV) (T' : Nat → Int32), itr (appF N a) (N - 1 - 1 - 1 - 1) (24 + (-8) + (-8) + (-8) + (-8), X', T') = some (X', T') := fun X' T' => itr_e (by omega) (by
    show f_X11_append_s3 N X' T' a (24 + (-8) + (-8) + (-8) + (-8)) = _
    unfold f_X11_append_s3
    rw [if_pos (show (24 + (-8) + (-8) + (-8) + (-8) : Int32) < 0 from by decide), pu_inrO])
  rw [ef, tt, ex]
  refine ⟨_, _, rfl, rfl, rfl, fun i hi => ?_, fun r hr => ?_⟩
  · rw [pk_un (by omega), pk_un (by omega), pk_un (by omega), pk_un (by omega)]
  · have : r = 0 ∨ r = 1 ∨ r = 2 ∨ r = 3 := by omega
    rcases this with rfl | rfl | rfl | rfl
    · rw [pk_un (by omega), pk_un (by omega), pk_un (by omega), Nat.add_zero, pk_us]; rfl
    · rw [pk_un (by omega), pk_un (by omega), pk_us]; rfl
    · rw [pk_un (by omega), pk_us]; rfl
    · rw [pk_us]; rfl
def zsel (a1 a2 a3 a4 a5 : Int32) (j : Nat) : Int32 := if j < 4 then a1 else if j < 8 then a2 else if j < 12 then a3 else if j < 16 then a4 else a5
theorem sh20 : ∀ j, j < 20 → (24 : Int32) - (8 * (nI j - nI j / 4 * 4)) = nI (24 - 8 * (j % 4)) := by decide +kernel
theorem feedX (N : Nat) (hN : 66 < N) {v : VV} {k : Nat} (a1 a2 a3 a4 a5 : Int32) (hk : k + 20 ≤ 700) (hv : v.1 2 = nI k) : ∃ w, f_X12_feed N v a1 a2 a3 a4 a5 = some (nI (k + 20), w) ∧ w.1 2 = nI (k + 20) ∧ (∀ q, q ≠ 0 → q ≠ 2 → w.1 q = v.1 q) ∧ (∀ q, q ≠ 1 → w.2.1 q = v.2.1 q) ∧ (∀ i, i < k → w.2.1 1 i = v.2.1 1 i) ∧ ∀ j, j < 20 → w.2.1 1 (k + j) = (zsel a1 a2 a3 a4 a5 j >>> (nI (24 - 8 * (j % 4)) &&& 31)) &&& 255 := by
  unfold f_X12_feed
  rw [hv, if_pos (show nI (k) ≤ (680 : Int32) from nI_le (a := k) (b := 680) (by omega) (by omega))]
  obtain ⟨r, g1, g2⟩ := itr1 (A := fun q : Int32 × VV => f_X12_feed_s20 N q.2 a1 a2 a3 a4 a5 q.1) (fun x (s : Int32 × VV) => ∃ j, x = 20 - j ∧ j ≤ 20 ∧ s.1 = nI j ∧ s.2.1 = (si v 0 0).1 ∧ (∀ q, q ≠ 1 → s.2.2.1 q = v.2.1 q) ∧ (∀ i, i < k → s.2.2.1 1 i = v.2.1 1 i) ∧ ∀ i, i < j → s.2.2.1 1 (k + i) = (zsel a1 a2 a3 a4 a5 i >>> (nI (24 - 8 * (i % 4)) &&& 31)) &&& 255) (fun r => r.1 = nI (k + 20) ∧ r.2.1 2 = nI (k + 20) ∧ (∀ q, q ≠ 0 → q ≠ 2 → r.2.1 q = v.1 q) ∧ (∀ q, q ≠ 1 → r.2.2.1 q = v.2.1 q) ∧ (∀ i, i < k → r.2.2.1 1 i = v.2.1 1 i) ∧ ∀ j, j < 20 → r.2.2.1 1 (k + j) = (zsel a1 a2 a3 a4 a5 j >>> (nI (24 - 8 * (j % 4)) &&& 31)) &&& 255) (by
    intro x s hR
    obtain ⟨s1, w⟩ := s
    obtain ⟨j, hx, hj, f1, f2, f3, f4, f5⟩ := hR
    simp only at f1 f2 f3 f4 f5
    subst f1
    simp only
    have e2 : w.1 2 = nI k := by rw [f2]; exact hv
    rcases Nat.lt_or_ge j 20 with hlt | hge
    · left
      refine ⟨20 - (j + 1), (nI (j + 1), sr w 1 (k + j) ((zsel a1 a2 a3 a4 a5 j >>> (nI (24 - 8 * (j % 4)) &&& 31)) &&& 255)), by omega, ?_, j + 1, rfl, by omega, rfl, f2, fun q hq => (if_neg hq).trans (f3 q hq), fun i hi => ?_, fun i hi => ?_⟩
      · unfold f_X12_feed_s20 f_X12_feed_b73
        rw [if_neg (show ¬ (20 : Int32) ≤ nI (j) from nI_ge (a := j) (b := 20) (by omega) (by omega)), e2, nI_add, sh20 j hlt, nI_1]
        simp only [pu_gin (show k + j < 700 by omega) (show 700 < 2 ^ 31 by omega), nI_clamp (show k + j < 2 ^ 31 by omega)]
        unfold zsel
        by_cases h4 : j < 4
        · rw [if_neg (show ¬ (4 : Int32) ≤ nI (j) from nI_ge (a := j) (b := 4) (by omega) (by omega)), if_pos h4]
        rw [if_pos (show (4 : Int32) ≤ nI (j) from nI_le (a := 4) (b := j) (by omega) (by omega)), if_neg h4]
        by_cases h8 : j < 8
        · rw [if_neg (show ¬ (8 : Int32) ≤ nI (j) from nI_ge (a := j) (b := 8) (by omega) (by omega)), if_pos h8]
        rw [if_pos (show (8 : Int32) ≤ nI (j) from nI_le (a := 8) (b := j) (by omega) (by omega)), if_neg h8]
        by_cases h12 : j < 12
        · rw [if_neg (show ¬ (12 : Int32) ≤ nI (j) from nI_ge (a := j) (b := 12) (by omega) (by omega)), if_pos h12]
        rw [if_pos (show (12 : Int32) ≤ nI (j) from nI_le (a := 12) (b := j) (by omega) (by omega)), if_neg h12]
        by_cases h16 : j < 16
        · rw [if_neg (show ¬ (16 : Int32) ≤ nI (j) from nI_ge (a := j) (b := 16) (by omega) (by omega)), if_pos h16]
        rw [if_pos (show (16 : Int32) ≤ nI (j) from nI_le (a := 16) (b := j) (by omega) (by omega)), if_neg h16]
      · show upd (w.2.1 1) (k + j) _ i = _
        rw [pk_un (by omega)]; exact f4 i hi
      · show upd (w.2.1 1) (k + j) _ (k + i) = _
        by_cases e : i = j
        · subst e; rw [pk_us]
        · rw [pk_un (by omega)]; exact f5 i (by omega)
    · right
      have : j = 20 := by omega
      subst this
      unfold f_X12_feed_s20
      have e20 : nI k + 20 = nI (k + 20) := nI_add k 20
      rw [if_pos (show (20 : Int32) ≤ nI 20 from by decide), e2, e20, pu_inrO]
      refine ⟨_, rfl, rfl, rfl, fun q h0 h2 => ?_, f3, f4, f5⟩
      show (if q = 2 then nI (k + 20) else w.1 q) = v.1 q
      rw [if_neg h2, f2]
      show (if q = 0 then 0 else v.1 q) = v.1 q
      rw [if_neg h0]) N 20 (0, si v 0 0) (by omega) ⟨0, by omega, by omega, rfl, rfl, fun _ _ => rfl, fun _ _ => rfl, fun i hi => by omega⟩
  obtain ⟨r1, w⟩ := r
  obtain ⟨h1, h2⟩ := g2
  simp only at h1 h2
  subst h1
  exact ⟨w, g1, h2⟩
theorem st_feed (N : Nat) (hN : 66 < N) : ST_feed N INV := by
  intro cv T B v a1 a2 a3 a4 a5 hI
  obtain ⟨n, m, h⟩ := hI
  obtain ⟨hP, hS, hT, hIm, hWa, hWb, hRf, hH, hU, hRd, hG, hE⟩ := id h
  have hm := PR_m hP
  obtain ⟨k, hk, t1, t2, t3⟩ := hT
  unfold f_X11_feed
  have e20 : nI k + 20 = nI (k + 20) := nI_add k 20
  rw [t1, e20]
  rcases Nat.lt_or_ge 700 (k + 20) with hgt | hle
  · have h' := inv_kv h (LF.refl _) (KV_0 v)
    unfold f_X12_feed
    rw [if_neg (show ¬ nI (k + 20) ≤ (700 : Int32) from nI_ge (a := 700) (b := k + 20) (by omega) (by omega)), t2, if_neg (show ¬ nI (k) ≤ (680 : Int32) from nI_ge (a := 680) (b := k) (by omega) (by omega))]
    exact ⟨_, _, _, _, rfl, rfl, n, m, h'⟩
  · rw [if_pos (show nI (k + 20) ≤ (700 : Int32) from nI_le (a := k + 20) (b := 700) (by omega) (by omega))]
    obtain ⟨X1, T1, p1, p2, p3, p4, p5⟩ := appR N hN (T := T) a1 (show k + 4 ≤ 700 by omega) t1
    obtain ⟨X2, T2, q1, q2, q3, q4, q5⟩ := appR N hN (T := T1) a2 (show k + 4 + 4 ≤ 700 by omega) p2
    obtain ⟨X3, T3, r1, r2, r3, r4, r5⟩ := appR N hN (T := T2) a3 (show k + 4 + 4 + 4 ≤ 700 by omega) q2
    obtain ⟨X4, T4, s1, s2, s3, s4, s5⟩ := appR N hN (T := T3) a4 (show k + 4 + 4 + 4 + 4 ≤ 700 by omega) r2
    obtain ⟨X5, T5, u1, u2, u3, u4, u5⟩ := appR N hN (T := T4) a5 (show k + 4 + 4 + 4 + 4 + 4 ≤ 700 by omega) s2
    obtain ⟨w, w1, w2, w3, w4, w5, w6⟩ := feedX N hN (v := v) a1 a2 a3 a4 a5 hle t2
    rw [p1, pu_bnd, q1, pu_bnd, r1, pu_bnd, s1, pu_bnd, u1, pu_bnd, u2, w1]
    have hT' : tpR X5 T5 w := by
      refine ⟨k + 20, hle, u2, w2, fun i hi => ?_⟩
      rcases Nat.lt_or_ge i k with hik | hik
      · rw [w5 i hik, u4 i (by omega), s4 i (by omega), r4 i (by omega), q4 i (by omega), p4 i hik]; exact t3 i hik
      · obtain ⟨j, rfl⟩ : ∃ j, i = k + j := ⟨i - k, by omega⟩
        have hj : j < 20 := by omega
        have e : T5 (k + j) = (zsel a1 a2 a3 a4 a5 j >>> (nI (24 - 8 * (j % 4)) &&& 31)).toInt8.toInt32 := by
          unfold zsel
          rcases Nat.lt_or_ge j 4 with h4 | h4
          · rw [if_pos h4, u4 _ (by omega), s4 _ (by omega), r4 _ (by omega), q4 _ (by omega), p5 j h4, show j % 4 = j by omega]
          rcases Nat.lt_or_ge j 8 with h8 | h8
          · rw [if_neg (by omega), if_pos h8, u4 _ (by omega), s4 _ (by omega), r4 _ (by omega), show k + j = k + 4 + (j - 4) by omega, q5 (j - 4) (by omega), show j % 4 = j - 4 by omega]
          rcases Nat.lt_or_ge j 12 with h12 | h12
          · rw [if_neg (by omega), if_neg (by omega), if_pos h12, u4 _ (by omega), s4 _ (by omega), show k + j = k + 4 + 4 + (j - 8) by omega, r5 (j - 8) (by omega), show j % 4 = j - 8 by omega]
          rcases Nat.lt_or_ge j 16 with h16 | h16
          · rw [if_neg (by omega), if_neg (by omega), if_neg (by omega), if_pos h16, u4 _ (by omega), show k + j = k + 4 + 4 + 4 + (j - 12) by omega, s5 (j - 12) (by omega), show j % 4 = j - 12 by omega]
          · rw [if_neg (by omega), if_neg (by omega), if_neg (by omega), if_neg (by omega), show k + j = k + 4 + 4 + 4 + 4 + (j - 16) by omega, u5 (j - 16) (by omega), show j % 4 = j - 16 by omega]
        rw [e, w6 j hj]; exact byte_ok _
    have hc : ∀ c, carS c c v w := fun c => ⟨w4 10 (by omega), fun q _ _ => by rw [w4 q (by omega)], fun q _ _ _ _ => by rw [w4 q (by omega)], fun q _ _ _ _ => by rw [w4 q (by omega)]⟩
    refine ⟨_, _, _, _, rfl, rfl, n, m, ?_, st_cs hm hS (hc 0), hT', ?_, hWa, hWb, ?_, ?_, ?_, ?_, hG, hE⟩
    · unfold PR trR trB siR siB seR seB lawR at *
      rw [w4 3 (by omega), w4 4 (by omega), w4 5 (by omega), w4 6 (by omega), w4 7 (by omega), w4 8 (by omega), w4 9 (by omega), w4 10 (by omega), w4 11 (by omega), w4 12 (by omega), w4 13 (by omega), w4 14 (by omega), w4 15 (by omega)]
      exact hP
    · have e6 : X5.1 6 = (cv 0).1 6 := by rw [u3, s3, r3, q3, p3]
      rcases hIm with ⟨a, b⟩ | ⟨a, b, c⟩
      · exact Or.inl ⟨e6.trans a, (w3 48 (by omega) (by omega)).trans b⟩
      · exact Or.inr ⟨e6.trans a, (w3 48 (by omega) (by omega)).trans b, st_cs hm c (hc 2)⟩
    · unfold rfR at *
      rw [w3 50 (by omega) (by omega), w3 51 (by omega) (by omega), w3 52 (by omega) (by omega), w3 53 (by omega) (by omega), w4 54 (by omega)]
      exact hRf
    · obtain ⟨h, h1, h2, h3, h4⟩ := hH
      exact ⟨h, h1, h2, (w3 49 (by omega) (by omega)).trans h3, hs_tr hm h _ (fun i _ => ⟨rfl, rfl, rfl⟩) (fun i _ => hc _) h4⟩
    · show ntR m (cv 16) w
      unfold ntR at *
      rw [w3 64 (by omega) (by omega), w3 65 (by omega) (by omega), w4 66 (by omega), w4 67 (by omega), w4 68 (by omega), w4 69 (by omega)]; exact hU
    · show rdR (cv 2) w
      unfold rdR at *
      rw [w3 25 (by omega) (by omega), w3 26 (by omega) (by omega)]; exact hRd
/-- what a party likes now: one number, whatever was worked out before -/
theorem likeU (N : Nat) (hN : 66 < N) {n m : Nat} {X : VV} {T : Nat → Int32} {R P L S Im Wa Wb Z U D E v : VV} (h : INV0 n m X T R P L S Im Wa Wb Z U D E v) :
    ∃ lk : Nat → Nat → Nat, (∀ p t, p < n → t < m → lk p t ≤ 99) ∧ ∀ p t, p < n → t < m → (∀ L', LF L L' → ∃ L2, f_X0_manner N P L' S Wa 0 (nI p) (nI t) 0 = some (nI (lk p t), L2) ∧ LF L L2) ∧ ∀ v', KV v v' → ∃ v2, f_X12_likeOf N v' 0 (nI p) (nI t) 0 = some (nI (lk p t), v2) ∧ wkG v' v2 := by
  have one : ∀ L' v', LF L L' → KV v v' → ∀ p t, p < n → t < m → ∃ y L2 v2, y ≤ 99 ∧ f_X0_manner N P L' S Wa 0 (nI p) (nI t) 0 = some (nI y, L2) ∧ f_X12_likeOf N v' 0 (nI p) (nI t) 0 = some (nI y, v2) ∧ LF L' L2 ∧ wkG v' v2 := by
    intro L' v' hL hv p t hp ht
    obtain ⟨hP, hS, _, _, hWa, _, hRf, _⟩ := inv_kv h hL hv
    have hm := PR_m hP
    exact likeR (c := 0) N hN hP hp ht (by omega) (way_std hP hWa hRf).1 0 (by have := hS.1.2.2.2.2.2.2.2 t (by omega); exact this) hS.1.1.1
  refine ⟨fun p t => if hx : p < n ∧ t < m then Classical.choose (one L v (LF.refl _) (KV.refl _) p t hx.1 hx.2) else 0, fun p t hp ht => ?_, fun p t hp ht => ⟨fun L' hL => ?_, fun v' hv => ?_⟩⟩
  · simp only [dif_pos (show p < n ∧ t < m from ⟨hp, ht⟩)]
    obtain ⟨L2, v2, a1, _⟩ := Classical.choose_spec (one L v (LF.refl _) (KV.refl _) p t hp ht)
    exact a1
  · simp only [dif_pos (show p < n ∧ t < m from ⟨hp, ht⟩)]
    obtain ⟨L2, v2, a1, a2, a3, a4, a5⟩ := Classical.choose_spec (one L v (LF.refl _) (KV.refl _) p t hp ht)
    obtain ⟨y, L3, v3, b1, b2, b3, b4, b5⟩ := one L' v hL (KV.refl _) p t hp ht
    have e : nI y = nI (Classical.choose (one L v (LF.refl _) (KV.refl _) p t hp ht)) := by
      have := b3.symm.trans a3
      injection this with this
      injection this
    exact ⟨L3, by rw [b2, e], hL.trans b4⟩
  · simp only [dif_pos (show p < n ∧ t < m from ⟨hp, ht⟩)]
    obtain ⟨L2, v2, a1, a2, a3, a4, a5⟩ := Classical.choose_spec (one L v (LF.refl _) (KV.refl _) p t hp ht)
    obtain ⟨y, L3, v3, b1, b2, b3, b4, b5⟩ := one L v' (LF.refl _) hv p t hp ht
    have e : nI y = nI (Classical.choose (one L v (LF.refl _) (KV.refl _) p t hp ht)) := by
      have := b2.symm.trans a2
      injection this with this
      injection this
    exact ⟨v3, by rw [b3, e], b5⟩
theorem missU (N : Nat) (hN : 66 < N) {n m : Nat} {X : VV} {T : Nat → Int32} {R P L S Im Wa Wb Z U D E v : VV} (h : INV0 n m X T R P L S Im Wa Wb Z U D E v) :
    ∃ lk : Nat → Nat → Nat, (∀ p t, p < n → t < m → lk p t ≤ 100) ∧ ∀ p t, p < n → t < m → (∀ L', LF L L' → ∃ L2, f_X0_manner N P L' S Wa 2 (nI p) (nI t) 0 = some (nI (lk p t), L2) ∧ LF L L2) ∧ ∀ v', KV v v' → ∃ v2, f_X12_missOf N v' 0 (nI p) (nI t) 0 = some (nI (lk p t), v2) ∧ wkG v' v2 := by
  have one : ∀ L' v', LF L L' → KV v v' → ∀ p t, p < n → t < m → ∃ y L2 v2, y ≤ 100 ∧ f_X0_manner N P L' S Wa 2 (nI p) (nI t) 0 = some (nI y, L2) ∧ f_X12_missOf N v' 0 (nI p) (nI t) 0 = some (nI y, v2) ∧ LF L' L2 ∧ wkG v' v2 := by
    intro L' v' hL hv p t hp ht
    obtain ⟨hP, hS, _, _, hWa, _, hRf, _⟩ := inv_kv h hL hv
    have hm := PR_m hP
    exact missR (c := 0) N hN hP hp ht (by omega) (way_std hP hWa hRf).1 0 (by have := hS.1.2.2.2.2.2.2.2 t (by omega); exact this) hS.1.1.1 (by rw [hRf.1.1]; decide)
  refine ⟨fun p t => if hx : p < n ∧ t < m then Classical.choose (one L v (LF.refl _) (KV.refl _) p t hx.1 hx.2) else 0, fun p t hp ht => ?_, fun p t hp ht => ⟨fun L' hL => ?_, fun v' hv => ?_⟩⟩
  · simp only [dif_pos (show p < n ∧ t < m from ⟨hp, ht⟩)]
    obtain ⟨L2, v2, a1, _⟩ := Classical.choose_spec (one L v (LF.refl _) (KV.refl _) p t hp ht)
    exact a1
  · simp only [dif_pos (show p < n ∧ t < m from ⟨hp, ht⟩)]
    obtain ⟨L2, v2, a1, a2, a3, a4, a5⟩ := Classical.choose_spec (one L v (LF.refl _) (KV.refl _) p t hp ht)
    obtain ⟨y, L3, v3, b1, b2, b3, b4, b5⟩ := one L' v hL (KV.refl _) p t hp ht
    have e : nI y = nI (Classical.choose (one L v (LF.refl _) (KV.refl _) p t hp ht)) := by
      have := b3.symm.trans a3
      injection this with this
      injection this
    exact ⟨L3, by rw [b2, e], hL.trans b4⟩
  · simp only [dif_pos (show p < n ∧ t < m from ⟨hp, ht⟩)]
    obtain ⟨L2, v2, a1, a2, a3, a4, a5⟩ := Classical.choose_spec (one L v (LF.refl _) (KV.refl _) p t hp ht)
    obtain ⟨y, L3, v3, b1, b2, b3, b4, b5⟩ := one L v' (LF.refl _) hv p t hp ht
    have e : nI y = nI (Classical.choose (one L v (LF.refl _) (KV.refl _) p t hp ht)) := by
      have := b2.symm.trans a2
      injection this with this
      injection this
    exact ⟨v3, by rw [b3, e], b5⟩
theorem i_sub3 (x b a : Int32) : x - b + a = x - (b - a) := by
  rw [Int32.sub_eq_add_neg x (b - a), Int32.sub_eq_add_neg b a, Int32.neg_add, Int32.sub_eq_add_neg (-b) (-a), Int32.neg_neg, Int32.sub_eq_add_neg x b, Int32.add_assoc]
theorem i_sub4 (x a b : Int32) : x - a + b = x + (b - a) := by
  rw [Int32.sub_eq_add_neg x a, Int32.sub_eq_add_neg b a, Int32.add_assoc, Int32.add_comm (-a) b]
/-- would two swap? the class's and the reference's one answer -/
theorem swap1 (N : Nat) (hN : 66 < N) {n m : Nat} {X : VV} {T : Nat → Int32} {R P L S Im Wa Wb Z U D E v L' v' : VV} (X0 : VV) (h : INV0 n m X T R P L S Im Wa Wb Z U D E v) (hL : LF L L') (hv : KV v v') {a b : Nat} (ha : a < n) (hb : b < n) (x1 : Int32) :
    ∃ z L2 v2, f_X11_wouldSwap N X0 P L' S Wa (nI a) (nI b) = some (z, L2) ∧ f_X12_swap_s32 N v' x1 (nI a) (nI b) = (if z = 0 then some (.inl (nI (b + 1), v2)) else some (.inr (.inr (if x1 = 0 then (nI a, v2) else (nI b, v2))))) ∧ LF L L2 ∧ KV v v2 := by
  obtain ⟨lk, lk1, lk2⟩ := likeU N hN h
  obtain ⟨hP, hS, _⟩ := inv_kv h hL hv
  have hP0 := h.1
  have hn := PR_n hP
  have hm := PR_m hP
  -- rows that stay
  have e37 : ∀ w, KV v w → ∀ q, q < 8 → w.2.1 37 q = S.2.1 2 q := fun w hw q hq => RE_eq (inv_kv h (LF.refl _) hw).2.1.1.2.1 hq (by omega)
  have e5 : ∀ w, KV v w → w.2.1 5 = v.2.1 5 := fun w hw => hw.2.1 5 (by omega)
  have e3 : ∀ w, KV v w → w.2.1 3 = v.2.1 3 := fun w hw => hw.2.1 3 (by omega)
  have wt : ∀ w, KV v w → ∀ x, f_X12_withTicket N w x = some (sm_ (fun q => if S.2.1 2 q = x then v.2.1 5 q else 0) n) := fun w hw x => by
    have := inv_kv h (LF.refl _) hw
    rw [with_S N hN this.1 this.2.1.1 x, e5 w hw]
  unfold f_X11_wouldSwap
  rw [hasP1 hP ha, hasP1 hP hb, pu_bnd, if_neg (by decide), pu_bnd, if_neg (by decide), pu_gin (show a < 8 by omega) (show 8 < 2 ^ 31 by omega), pu_gin (show b < 8 by omega) (show 8 < 2 ^ 31 by omega), nI_clamp (show a < 2 ^ 31 by omega), nI_clamp (show b < 2 ^ 31 by omega)]
  have okA := hS.2.2.2.1 a (by omega)
  have okB := hS.2.2.2.1 b (by omega)
  have neg1 : ∀ u : Nat, u < 3 → ¬ nI u = -1 := fun u hu h => nI_pos (show u < 2 ^ 31 by omega) (by rw [h]; decide)
  -- what a party would gain
  have gn : ∀ (w : VV) (p : Nat) (x : Int32), p < n → KV v w → (x = -1 ∨ ∃ u : Nat, u < m ∧ x = nI u) → ∃ w2 A H, f_X12_gains N w (nI p) x = some ((if nI A ≤ nI H then 0 else 1), w2) ∧ KV v w2 ∧ A ≤ 99 ∧ H ≤ 99 ∧ (x = -1 → A = 0) ∧ (∀ u, u < m → x = nI u → A = lk p u) ∧ (S.2.1 2 p = -1 → H = 0) ∧ ∀ u, u < m → S.2.1 2 p = nI u → H = lk p u := by
    intro w p x hp hw hx
    have second : ∀ (w : VV) (H : Nat), KV v w → ∃ w2 A, f_X12_gains_b27 N w (nI p) x (nI H) = some ((if nI A ≤ nI H then 0 else 1), w2) ∧ KV v w2 ∧ A ≤ 99 ∧ (x = -1 → A = 0) ∧ ∀ u, u < m → x = nI u → A = lk p u := by
      intro w H hw
      unfold f_X12_gains_b27 f_X12_gains_b45
      rcases hx with rfl | ⟨u, hu, rfl⟩
      · rw [if_pos rfl]
        refine ⟨w, 0, ?_, hw, by omega, fun _ => rfl, fun u hu e => absurd e.symm (neg1 u (by omega))⟩
        show (if nI 0 ≤ nI H then some (0, w) else some (1, w)) = _
        by_cases c : nI 0 ≤ nI H
        · rw [if_pos c, if_pos c]
        · rw [if_neg c, if_neg c]
      · rw [if_neg (neg1 u (by omega))]
        obtain ⟨v2, g1, g2⟩ := (lk2 p u hp hu).2 w hw
        rw [g1, pu_bnd]
        refine ⟨v2, lk p u, ?_, hw.trans (KV_wk g2), lk1 p u hp hu, fun e => absurd e (neg1 u (by omega)), fun u' hu' e => ?_⟩
        · by_cases c : nI (lk p u) ≤ nI H
          · rw [if_pos c, if_pos c]
          · rw [if_neg c, if_neg c]
        · have : u = u' := (nI_eq (by omega) (by omega)).mp e
          rw [this]
    unfold f_X12_gains
    rw [pu_gin (show p < 184 by omega) (show 184 < 2 ^ 31 by omega), nI_clamp (show p < 2 ^ 31 by omega), e37 w hw p (by omega)]
    rcases hS.2.2.2.1 p (by omega) with e | ⟨u, hu, e⟩
    · rw [if_pos e]
      obtain ⟨w2, A, s1, s2, s3, s4, s5⟩ := second w 0 hw
      exact ⟨w2, A, 0, s1, s2, s3, by omega, s4, s5, fun _ => rfl, fun u' hu' e' => absurd (e.symm.trans e').symm (neg1 u' (by omega))⟩
    · rw [e, if_neg (neg1 u (by omega)), pu_gin (show p < 184 by omega) (show 184 < 2 ^ 31 by omega)]
      obtain ⟨v2, g1, g2⟩ := (lk2 p u hp hu).2 w hw
      rw [g1, pu_bnd]
      obtain ⟨w2, A, s1, s2, s3, s4, s5⟩ := second v2 (lk p u) (hw.trans (KV_wk g2))
      refine ⟨w2, A, lk p u, s1, s2, s3, lk1 p u hp hu, s4, s5, fun e' => absurd e' (neg1 u (by omega)), fun u' hu' e' => ?_⟩
      have : u = u' := (nI_eq (by omega) (by omega)).mp e'
      rw [this]
  obtain ⟨w1, A1, H1, g1, g2, g3, g4, g5, g6, g7, g8⟩ := gn v' a (S.2.1 2 b) ha hv okB
  obtain ⟨w2, A2, H2, k1, k2, k3, k4, k5, k6, k7, k8⟩ := gn w1 b (S.2.1 2 a) hb g2 okA
  have cmp : ∀ x y : Nat, x ≤ 99 → y ≤ 99 → ((if nI x ≤ nI y then (0 : Int32) else 1) = if x ≤ y then 0 else 1) := by
    intro x y hx hy
    by_cases c : x ≤ y
    · rw [if_pos c, if_pos (nI_le c (by omega))]
    · rw [if_neg c, if_neg (nI_ge (by omega) (by omega))]
  have fit : ∀ w (p q u : Nat), KV v w → p < n → q < n → u < m → S.2.1 2 q = nI u → f_X12_fits N w (nI p) (nI q) = some (if v.2.1 3 1 + v.2.1 3 6 < sm_ (fun x => if S.2.1 2 x = nI u then v.2.1 5 x else 0) n - v.2.1 5 q + v.2.1 5 p then 0 else 1) := by
    intro w p q u hw hp hq hu e
    unfold f_X12_fits f_X12_fits_b48
    rw [pu_gin (show q < 184 by omega) (show 184 < 2 ^ 31 by omega), nI_clamp (show q < 2 ^ 31 by omega), e37 w hw q (by omega), e, if_neg (neg1 u (by omega)), wt w hw, pu_bnd, pu_gin (show q < 16 by omega) (show 16 < 2 ^ 31 by omega), pu_gin (show p < 16 by omega) (show 16 < 2 ^ 31 by omega), nI_clamp (show p < 2 ^ 31 by omega), e5 w hw, e3 w hw]
    by_cases c : v.2.1 3 1 + v.2.1 3 6 < sm_ (fun x => if S.2.1 2 x = nI u then v.2.1 5 x else 0) n - v.2.1 5 q + v.2.1 5 p
    · rw [if_pos c, if_pos c]
    · rw [if_neg c, if_neg c]
  have rf : f_X12_swap_s32 N v' x1 (nI a) (nI b) = (if A1 ≤ H1 then some (.inl (nI (b + 1), w1)) else if A2 ≤ H2 then some (.inl (nI (b + 1), w2)) else bnd (f_X12_fits N w2 (nI a) (nI b)) (fun q5 => if q5 = 0 then some (.inl (nI (b + 1), w2)) else bnd (f_X12_fits N w2 (nI b) (nI a)) (fun q7 => if q7 = 0 then some (.inl (nI (b + 1), w2)) else inrO (inrO (if x1 = 0 then some (nI a, w2) else some (nI b, w2)))))) := by
    unfold f_X12_swap_s32 f_X12_swap_b98
    rw [show v'.2.1 3 0 = nI n from PR_v0 hP, if_neg (nI_ge hb (show n < 2 ^ 31 by omega)), pu_gin (show b < 184 by omega) (show 184 < 2 ^ 31 by omega), nI_clamp (show b < 2 ^ 31 by omega), e37 v' hv b (by omega), nI_1, g1, pu_bnd, cmp A1 H1 g3 g4]
    by_cases c1 : A1 ≤ H1
    · simp only [if_pos c1, ↓reduceIte]
    · simp only [if_neg c1, n10, ↓reduceIte, pu_gin (show a < 184 by omega) (show 184 < 2 ^ 31 by omega), nI_clamp (show a < 2 ^ 31 by omega), e37 w1 g2 a (by omega), k1, pu_bnd, cmp A2 H2 k3 k4]
      by_cases c2 : A2 ≤ H2
      · simp only [if_pos c2, ↓reduceIte]
      · simp only [if_neg c2, n10, ↓reduceIte]
  have no : (A1 ≤ H1 ∨ A2 ≤ H2) → ∀ L2, LF L L2 → ∃ z L3 v2, some ((0 : Int32), L2) = some (z, L3) ∧ f_X12_swap_s32 N v' x1 (nI a) (nI b) = (if z = 0 then some (.inl (nI (b + 1), v2)) else some (.inr (.inr (if x1 = 0 then (nI a, v2) else (nI b, v2))))) ∧ LF L L3 ∧ KV v v2 := by
    intro hh L2 hL2
    rw [rf]
    by_cases c1 : A1 ≤ H1
    · exact ⟨0, L2, w1, rfl, by rw [if_pos c1, if_pos rfl], hL2, g2⟩
    · exact ⟨0, L2, w2, rfl, by rw [if_neg c1, if_pos (show A2 ≤ H2 by omega), if_pos rfl], hL2, k2⟩
  rcases okA with ea | ⟨ua, hua, ea⟩
  · rw [if_pos ea]
    exact no (Or.inr (by rw [k5 ea]; omega)) L' hL
  rw [ea, if_neg (neg1 ua (by omega))]
  rcases okB with eb | ⟨ub, hub, eb⟩
  · rw [if_pos eb]
    exact no (Or.inl (by rw [g5 eb]; omega)) L' hL
  rw [eb, if_neg (neg1 ub (by omega))]
  have q1 := g6 ub hub eb
  have q2 := g8 ua hua ea
  have q3 := k6 ua hua ea
  have q4 := k8 ub hub eb
  by_cases cu : ua = ub
  · subst cu
    rw [if_pos rfl]
    exact no (Or.inl (by rw [q1, q2]; omega)) L' hL
  rw [if_neg (fun e => cu ((nI_eq (by omega) (by omega)).mp e))]
  unfold f_X11_likeNow
  obtain ⟨L1, m1, m2⟩ := (lk2 a ub ha hub).1 L' hL
  obtain ⟨L2, m3, m4⟩ := (lk2 a ua ha hua).1 L1 m2
  rw [m1, pu_bnd, pu_bnd, m3, pu_bnd, pu_bnd]
  by_cases c1 : A1 ≤ H1
  · rw [if_pos (show nI (lk a ub) ≤ nI (lk a ua) from by rw [← q1, ← q2]; exact nI_le c1 (by omega))]
    exact no (Or.inl c1) L2 m4
  rw [if_neg (show ¬ nI (lk a ub) ≤ nI (lk a ua) from by rw [← q1, ← q2]; exact nI_ge (by omega) (by omega))]
  obtain ⟨L3, m5, m6⟩ := (lk2 b ua hb hua).1 L2 m4
  obtain ⟨L4, m7, m8⟩ := (lk2 b ub hb hub).1 L3 m6
  rw [m5, pu_bnd, pu_bnd, m7, pu_bnd, pu_bnd]
  by_cases c2 : A2 ≤ H2
  · rw [if_neg (show ¬ nI (lk b ub) < nI (lk b ua) from by rw [← q3, ← q4]; exact nI_nlt c2 (by omega))]
    exact no (Or.inr c2) L4 m8
  rw [if_pos (show nI (lk b ub) < nI (lk b ua) from by rw [← q3, ← q4]; exact nI_lt (by omega) (by omega))]
  have mt : f_X6_mostTickets P = some (v.2.1 3 1 + v.2.1 3 6) := by unfold f_X6_mostTickets; rw [(PR_sE hP0).1, (PR_sE hP0).2.2.2.2.1]
  rw [tra0 hP0 hb, pu_bnd, tra0 hP0 ha, pu_bnd, pers_S N hN hP0, pu_bnd, mt, pu_bnd, pers_S N hN hP0, pu_bnd, pu_bnd]
  rw [rf, if_neg c1, if_neg c2, fit w2 a b ub k2 ha hb hub eb, pu_bnd]
  have s1 : sm_ (fun x => if S.2.1 2 x = nI ub then v.2.1 5 x else 0) n - v.2.1 5 b + v.2.1 5 a = sm_ (fun x => if S.2.1 2 x = nI ub then v.2.1 5 x else 0) n - (v.2.1 5 b - v.2.1 5 a) := by
    exact i_sub3 _ _ _
  have s2 : sm_ (fun x => if S.2.1 2 x = nI ua then v.2.1 5 x else 0) n - v.2.1 5 a + v.2.1 5 b = sm_ (fun x => if S.2.1 2 x = nI ua then v.2.1 5 x else 0) n + (v.2.1 5 b - v.2.1 5 a) := by
    exact i_sub4 _ _ _
  rw [s1]
  by_cases d1 : v.2.1 3 1 + v.2.1 3 6 < sm_ (fun x => if S.2.1 2 x = nI ua then v.2.1 5 x else 0) n + (v.2.1 5 b - v.2.1 5 a)
  · rw [if_pos d1]
    refine ⟨0, L4, w2, rfl, ?_, m8, k2⟩
    rw [if_pos (show (0 : Int32) = 0 from rfl)]
    by_cases d2 : v.2.1 3 1 + v.2.1 3 6 < sm_ (fun x => if S.2.1 2 x = nI ub then v.2.1 5 x else 0) n - (v.2.1 5 b - v.2.1 5 a)
    · rw [if_pos d2, if_pos rfl]
    · rw [if_neg d2, if_neg (by decide), fit w2 b a ua k2 hb ha hua ea, pu_bnd, s2, if_pos d1, if_pos rfl]
  · rw [if_neg d1]
    by_cases d2 : v.2.1 3 1 + v.2.1 3 6 < sm_ (fun x => if S.2.1 2 x = nI ub then v.2.1 5 x else 0) n - (v.2.1 5 b - v.2.1 5 a)
    · rw [if_pos d2, if_pos d2]
      exact ⟨0, L4, w2, rfl, by rw [if_pos rfl, if_pos rfl], m8, k2⟩
    · rw [if_neg d2, if_neg d2]
      refine ⟨1, L4, w2, rfl, ?_, m8, k2⟩
      simp only [n10, ↓reduceIte, fit w2 b a ua k2 hb ha hua ea, pu_bnd, s2, if_neg d1]
      by_cases cx : x1 = 0
      · simp only [if_pos cx, pu_inrO]
      · simp only [if_neg cx, pu_inrO]
theorem st_swap (N : Nat) (hN : 66 < N) : ST_swap N INV := by
  intro cv T B v a1 hI
  obtain ⟨n, m, h⟩ := hI
  have h' := inv_kv h (LF.refl _) (KV_0 v)
  obtain ⟨hP, hS, hT, hIm, hWa, hWb, hRf, hH, hU, hRd, hG, hE⟩ := id h'
  have hn := PR_n hP
  unfold f_X11_swap f_X12_swap
  by_cases c1 : a1 < 0
  · simp only [if_pos c1]; exact ⟨_, _, _, rfl, rfl, n, m, h'⟩
  by_cases c2 : a1 ≤ 1
  · simp only [if_neg c1, if_pos c2]
    have e3 : ∀ w, KV (si v 0 0) w → w.2.1 3 0 = nI n := fun w hw => by rw [hw.2.1 3 (by omega)]; exact PR_v0 hP
    obtain ⟨r, r', g1, g2, g3⟩ := itr2 (A := fun q : Int32 × VV => f_X11_swap_s13 N (cv 0) (cv 6) q.2 (cv 8) (cv 12) a1 q.1) (B := fun q : Int32 × VV => f_X12_swap_s18 N q.2 a1 q.1) (fun k s s' => ∃ i, k = n - i ∧ i ≤ n ∧ s.1 = nI i ∧ s'.1 = nI i ∧ LF (cv 7) s.2 ∧ KV (si v 0 0) s'.2) (fun r r' => r.1 = r'.1 ∧ LF (cv 7) r.2 ∧ KV (si v 0 0) r'.2) (by
      intro k s s' hR
      obtain ⟨s1, L⟩ := s
      obtain ⟨s1', w⟩ := s'
      obtain ⟨i, hk, hi, f1, f2, f3, f4⟩ := hR
      simp only at f1 f2 f3 f4
      subst f1 f2
      simp only
      unfold f_X11_swap_s13 f_X12_swap_s18
      rw [PR_P0 hP, e3 w f4]
      rcases Nat.lt_or_ge i n with hlt | hge
      · rw [if_neg (nI_ge hlt (show n < 2 ^ 31 by omega)), if_neg (nI_ge hlt (show n < 2 ^ 31 by omega)), nI_1]
        obtain ⟨r, r', q1, q2, q3⟩ := itr2 (A := fun q : Int32 × VV => f_X11_swap_s28 N (cv 0) (cv 6) q.2 (cv 8) (cv 12) a1 (nI i) q.1) (B := fun q : Int32 × VV => f_X12_swap_s32 N q.2 a1 (nI i) q.1) (fun k s s' => ∃ j, k = n - j ∧ j ≤ n ∧ s.1 = nI j ∧ s'.1 = nI j ∧ LF (cv 7) s.2 ∧ KV (si v 0 0) s'.2) (fun r r' => (∃ L2 w2, r = .inl (nI (i + 1), L2) ∧ r' = .inl (nI (i + 1), w2) ∧ LF (cv 7) L2 ∧ KV (si v 0 0) w2) ∨ ∃ x L2 w2, r = .inr (x, L2) ∧ r' = .inr (x, w2) ∧ LF (cv 7) L2 ∧ KV (si v 0 0) w2) (by
          intro k s s' hR
          obtain ⟨s1, L⟩ := s
          obtain ⟨s1', w⟩ := s'
          obtain ⟨j, hk, hj, f1, f2, f3, f4⟩ := hR
          simp only at f1 f2 f3 f4
          subst f1 f2
          simp only
          rcases Nat.lt_or_ge j n with hlt2 | hge2
          · obtain ⟨z, L2, v2, y1, y2, y3, y4⟩ := swap1 N hN (cv 0) h' f3 f4 hlt hlt2 a1
            rw [y2]
            unfold f_X11_swap_s28
            rw [PR_P0 hP, if_neg (nI_ge hlt2 (show n < 2 ^ 31 by omega)), y1, pu_bnd, nI_1]
            by_cases ez : z = 0
            · left; rw [if_pos ez, if_pos ez]; exact ⟨n - (j + 1), _, _, by omega, rfl, rfl, j + 1, rfl, hlt2, rfl, rfl, y3, y4⟩
            · right; rw [if_neg ez, if_neg ez]
              by_cases cx : a1 = 0
              · rw [if_pos cx, if_pos cx, pu_inrO, pu_inrO]; exact ⟨_, _, rfl, rfl, Or.inr ⟨_, _, _, rfl, rfl, y3, y4⟩⟩
              · rw [if_neg cx, if_neg cx, pu_inrO, pu_inrO]; exact ⟨_, _, rfl, rfl, Or.inr ⟨_, _, _, rfl, rfl, y3, y4⟩⟩
          · right
            have : j = n := by omega
            subst this
            unfold f_X11_swap_s28 f_X12_swap_s32
            rw [PR_P0 hP, e3 w f4, if_pos (nI_le (Nat.le_refl j) (show j < 2 ^ 31 by omega)), if_pos (nI_le (Nat.le_refl j) (show j < 2 ^ 31 by omega)), pu_inrO, pu_inrO, nI_1]
            exact ⟨_, _, rfl, rfl, Or.inl ⟨_, _, rfl, rfl, f3, f4⟩⟩) N (n - (i + 1)) (nI (i + 1), L) (nI (i + 1), w) (by omega) ⟨i + 1, rfl, hlt, rfl, rfl, f3, f4⟩
        rw [q1, q2]
        rcases q3 with ⟨L2, w2, rfl, rfl, p1, p2⟩ | ⟨x, L2, w2, rfl, rfl, p1, p2⟩
        · left; exact ⟨n - (i + 1), _, _, by omega, rfl, rfl, i + 1, rfl, hlt, rfl, rfl, p1, p2⟩
        · right; exact ⟨_, _, rfl, rfl, rfl, p1, p2⟩
      · right
        have : i = n := by omega
        subst this
        rw [if_pos (nI_le (Nat.le_refl i) (show i < 2 ^ 31 by omega)), if_pos (nI_le (Nat.le_refl i) (show i < 2 ^ 31 by omega)), pu_inrO, pu_inrO]
        exact ⟨_, _, rfl, rfl, rfl, f3, f4⟩) N n (0, cv 7) (0, si v 0 0) (by omega) ⟨0, rfl, by omega, rfl, rfl, LF.refl _, KV.refl _⟩
    obtain ⟨r1, L'⟩ := r
    obtain ⟨r2, w⟩ := r'
    simp only at g3
    obtain ⟨rfl, q1, q2⟩ := g3
    exact ⟨_, _, _, g1, g2, n, m, inv_kv h' q1 q2⟩
  · simp only [if_neg c1, if_neg c2]; exact ⟨_, _, _, rfl, rfl, n, m, h'⟩
