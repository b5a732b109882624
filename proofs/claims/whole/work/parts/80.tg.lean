theorem st_10 {n m c : Nat} {S v v' : VV} (hm : m ≤ 3) (h : stR n m c S v) (h10 : ∀ u, u < 3 → v'.2.1 10 u = v.2.1 10 u) (hr : ∀ k, 32 ≤ k → k ≤ 47 → v'.2.1 k = v.2.1 k) : stR n m c S v' := by
  have h2 : stR n m c S (sw v' 10 (v.2.1 10)) := by
    refine st_cs hm h ⟨rfl, fun k a b => ?_, fun k a b p _ => ?_, fun k a b p _ => ?_⟩
    · rw [← hr k (by omega) (by omega)]; exact congrFun (show (if k = 10 then v.2.1 10 else v'.2.1 k) = v'.2.1 k from if_neg (by omega)) _
    · rw [← hr k (by omega) (by omega)]; exact congrFun (show (if k = 10 then v.2.1 10 else v'.2.1 k) = v'.2.1 k from if_neg (by omega)) _
    · rw [← hr k (by omega) (by omega)]; exact congrFun (show (if k = 10 then v.2.1 10 else v'.2.1 k) = v'.2.1 k from if_neg (by omega)) _
  obtain ⟨a, b, d⟩ := h2
  refine ⟨a, ?_, d⟩
  rcases b with ⟨x, y⟩ | ⟨x, y⟩
  · exact Or.inl ⟨x, y⟩
  · refine Or.inr ⟨x, fun u hu => ?_⟩
    obtain ⟨y1, y2, y3, y4⟩ := y u hu
    refine ⟨y1, y2, ?_, y4⟩
    rw [h10 u (by omega)]; exact y3
theorem hs_10 {n m : Nat} {Z v v' : VV} (hm : m ≤ 3) (h10 : ∀ u, u < 3 → v'.2.1 10 u = v.2.1 10 u) (hr : ∀ k, 32 ≤ k → k ≤ 47 → v'.2.1 k = v.2.1 k) : ∀ (h : Nat) (S : VV), hsR n m Z v h S → hsR n m Z v' h S := by
  intro h
  induction h with
  | zero => intro S _; exact trivial
  | succ h ih =>
    intro S hs
    obtain ⟨h1, h2, h3⟩ := hs
    exact ⟨h1, st_10 hm h2 h10 hr, ih _ h3⟩
theorem text_f {n m : Nat} {X : VV} {T : Nat → Int32} {R P L S Im Wa Wb Z U D E v R' w : VV} (h : INV0 n m X T R P L S Im Wa Wb Z U D E v) (hf : ∀ k, 28 < k → w.1 k = v.1 k) (h2 : w.1 2 = 0) (hr : ∀ k, 15 < k → w.2.1 k = v.2.1 k) (hp : ∀ k i, 3 ≤ k → k ≤ 15 → i < hk k → w.2.1 k i = v.2.1 k i) (hd : rdR R' w) : INV0 n m (si X 1 0) T R' P L S Im Wa Wb Z U D E w := by
  obtain ⟨hP, hS, hT, hIm, hWa, hWb, hRf, hH, hU, hRd, hG, hE⟩ := h
  have hm := PR_m hP
  have r10 : ∀ u, u < 3 → w.2.1 10 u = v.2.1 10 u := fun u hu => hp 10 u (by omega) (by omega) hu
  have r32 : ∀ k, 32 ≤ k → k ≤ 47 → w.2.1 k = v.2.1 k := fun k a _ => hr k (by omega)
  refine ⟨PR_half hP hp, st_10 hm hS r10 r32, ⟨0, by omega, rfl, h2, fun i hi => by omega⟩, ?_, hWa, hWb, ?_, ?_, ?_, hd, hG, hE⟩
  · rcases hIm with ⟨a, b⟩ | ⟨a, b, c⟩
    · exact Or.inl ⟨a, (hf 48 (by omega)).trans b⟩
    · exact Or.inr ⟨a, (hf 48 (by omega)).trans b, st_10 hm c r10 r32⟩
  · unfold rfR at *
    rw [hf 50 (by omega), hf 51 (by omega), hf 52 (by omega), hf 53 (by omega), hr 54 (by omega)]
    exact hRf
  · obtain ⟨h, h1, h2, h3, h4⟩ := hH
    exact ⟨h, h1, h2, (hf 49 (by omega)).trans h3, hs_10 hm r10 r32 h S h4⟩
  · unfold ntR at *; rw [hf 64 (by omega), hf 65 (by omega), hr 66 (by omega), hr 67 (by omega), hr 68 (by omega), hr 69 (by omega)]; exact hU
/-- the read halves taken over -/
theorem text_h (N : Nat) (hN : 2000 < N) {v : VV} (h23 : v.1 23 = 0) : ∃ u, f_X12_text_b178 N v = bnd (f_X12_begins N u) (fun q => some (q.1 17, q)) ∧ (∀ k i, 3 ≤ k → k ≤ 15 → i < hk k → u.2.1 k i = (up v).2.1 k i) ∧ (∀ k, ¬ k = 25 → ¬ k = 26 → ¬ k = 64 → ¬ k = 65 → ¬ k = 48 → ¬ k = 49 → u.1 k = v.1 k) ∧ (u.1 25 = v.1 23 ∧ u.1 26 = v.1 24 ∧ u.1 64 = 0 ∧ u.1 65 = -1 ∧ u.1 48 = 0 ∧ u.1 49 = 0) ∧ (∀ k, 15 < k → u.2.1 k = v.2.1 k) := by
  unfold f_X12_text_b178
  rw [if_pos h23]
  obtain ⟨g3, a3, b3⟩ := halfR N hN (v.2.1 3) (h := 9) (by omega)
  obtain ⟨g4, a4, b4⟩ := halfR N hN (v.2.1 4) (h := 8) (by omega)
  obtain ⟨g5, a5, b5⟩ := halfR N hN (v.2.1 5) (h := 8) (by omega)
  obtain ⟨g6, a6, b6⟩ := halfR N hN (v.2.1 6) (h := 24) (by omega)
  obtain ⟨g7, a7, b7⟩ := halfR N hN (v.2.1 7) (h := 8) (by omega)
  obtain ⟨g8, a8, b8⟩ := halfR N hN (v.2.1 8) (h := 8) (by omega)
  obtain ⟨g9, a9, b9⟩ := halfR N hN (v.2.1 9) (h := 8) (by omega)
  obtain ⟨g10, a10, b10⟩ := halfR N hN (v.2.1 10) (h := 3) (by omega)
  obtain ⟨g11, a11, b11⟩ := halfR N hN (v.2.1 11) (h := 3) (by omega)
  obtain ⟨g12, a12, b12⟩ := halfR N hN (v.2.1 12) (h := 3) (by omega)
  obtain ⟨g13, a13, b13⟩ := halfR N hN (v.2.1 13) (h := 3) (by omega)
  obtain ⟨g14, a14, b14⟩ := halfR N hN (v.2.1 14) (h := 64) (by omega)
  obtain ⟨g15, a15, b15⟩ := halfR N hN (v.2.1 15) (h := 64) (by omega)
  rw [a3, pu_bnd, a4, pu_bnd, a5, pu_bnd, a6, pu_bnd, a7, pu_bnd, a8, pu_bnd, a9, pu_bnd, a10, pu_bnd, a11, pu_bnd, a12, pu_bnd, a13, pu_bnd, a14, pu_bnd, a15, pu_bnd]
  refine ⟨_, rfl, fun k i h3 h15 hi => ?_, fun k n1 n2 n3 n4 n5 n6 => ?_, ⟨rfl, rfl, rfl, rfl, rfl, rfl⟩, fun k hk => ?_⟩
  · have hc : k = 3 ∨ k = 4 ∨ k = 5 ∨ k = 6 ∨ k = 7 ∨ k = 8 ∨ k = 9 ∨ k = 10 ∨ k = 11 ∨ k = 12 ∨ k = 13 ∨ k = 14 ∨ k = 15 := by omega
    rcases hc with rfl | rfl | rfl | rfl | rfl | rfl | rfl | rfl | rfl | rfl | rfl | rfl | rfl
    · exact b3 i hi
    · exact b4 i hi
    · exact b5 i hi
    · exact b6 i hi
    · exact b7 i hi
    · exact b8 i hi
    · exact b9 i hi
    · exact b10 i hi
    · exact b11 i hi
    · exact b12 i hi
    · exact b13 i hi
    · exact b14 i hi
    · exact b15 i hi
  · show (if k = 49 then _ else if k = 48 then _ else if k = 65 then _ else if k = 64 then _ else if k = 26 then _ else if k = 25 then _ else v.1 k) = _
    rw [if_neg n6, if_neg n5, if_neg n4, if_neg n3, if_neg n2, if_neg n1]
  · show (if k = 15 then _ else if k = 14 then _ else if k = 13 then _ else if k = 12 then _ else if k = 11 then _ else if k = 10 then _ else if k = 9 then _ else if k = 8 then _ else if k = 7 then _ else if k = 6 then _ else if k = 5 then _ else if k = 4 then _ else if k = 3 then _ else v.2.1 k) = _
    rw [if_neg (by omega), if_neg (by omega), if_neg (by omega), if_neg (by omega), if_neg (by omega), if_neg (by omega), if_neg (by omega), if_neg (by omega), if_neg (by omega), if_neg (by omega), if_neg (by omega), if_neg (by omega), if_neg (by omega)]
theorem st_text (N : Nat) (hN : 2000 < N) : ST_text N INV := by
  intro cv T B v a1 hI
  obtain ⟨n, m, h⟩ := hI
  obtain ⟨k, k1, k2, k3, k4⟩ : tpR (cv 0) T v := h.2.2.1
  by_cases c1 : a1 < 0
  · refine ⟨-2, false, cv 0, cv 2, cv 3, cv 4, cv 5, cv 8, cv 15, cv 16, cv 17, cv 18, si v 0 0, ?_, ?_, n, m, inv_kv h (LF.refl _) (KV_0 v)⟩
    · unfold f_X11_text; rw [if_pos c1]
    · unfold f_X12_text; rw [if_pos c1]
  by_cases c2 : a1 ≤ nI k
  · obtain ⟨nn, hn, rfl⟩ : ∃ nn : Nat, nn ≤ k ∧ a1 = nI nn := by
      rcases pk_ix a1 (n := k + 1) (by omega) with h1 | h1 | ⟨q, hq, rfl⟩
      · exact absurd h1 c1
      · exact absurd (Int32.le_trans h1 c2) (nI_ge (by omega) (by omega))
      · exact ⟨q, by omega, rfl⟩
    obtain ⟨z, R', K', P', L', v', e1, e2, e3, e4⟩ := readR N hN (X := cv 0) (cv 2) (cv 3) (cv 4) (cv 5) k1 k3 k4 hn
    have v2 : v'.1 2 = 0 := e3.1 2 (by omega)
    have vk : ∀ q, 28 < q → v'.1 q = v.1 q := fun q hq => by
      rw [e3.1 q (by omega), pu_si1, if_neg (by omega), pu_si1, if_neg (by omega)]
    rw [e2]
    unfold f_X11_text
    rw [if_neg c1, k2, if_pos c2, e1, pu_bnd]
    rcases e4 with ⟨rfl, f1, f2, f3⟩ | ⟨rfl, f1, a, c, f2, f3, f4, f5, f6⟩
    · refine ⟨-1, false, si (cv 0) 1 0, R', K', P', L', cv 8, cv 15, cv 16, cv 17, cv 18, si (si v' 25 (v'.1 23)) 26 (v'.1 24), ?_, ?_, n, m, ?_⟩
      · rw [if_pos rfl]
      · unfold f_X12_text_b178
        rw [if_neg (by rw [f1]; exact f2)]
      · refine text_f (w := si (si v' 25 (v'.1 23)) 26 (v'.1 24)) h (fun q hq => ?_) ?_ (fun q hq => e3.2.1 q (by omega)) (fun q i a b c => e3.2.2 q i a b c) ⟨f1.symm, f3.symm⟩
        · rw [pu_si1, if_neg (by omega), pu_si1, if_neg (by omega)]; exact vk q hq
        · exact v2
    · obtain ⟨u, u1, u2, u3, ⟨u4, u5, u6, u7, u8, u9⟩, u10⟩ := text_h N hN f1
      have hP0 : PR a c P' L' u := PR_half f2 u2
      obtain ⟨S', w, b1, b2, b3, b4⟩ := beginR N (by omega) (cv 8) hP0
      have wk : ∀ q, ¬ q = 25 → ¬ q = 26 → ¬ q = 64 → ¬ q = 65 → ¬ q = 48 → ¬ q = 49 → ¬ q = 31 → ¬ q = 55 → ¬ q = 56 → ¬ q = 57 → w.1 q = v'.1 q := fun q x1 x2 x3 x4 x5 x6 x7 x8 x9 x10 => (b3.1 q x7 x8 x9 x10).trans (u3 q x1 x2 x3 x4 x5 x6)
      refine ⟨R'.1 4, true, si (si (cv 0) 1 0) 6 0, R', K', P', L', S', si (cv 15) 3 0, si (si (cv 16) 4 0) 5 (-1), si (cv 17) 6 0, si (cv 18) 3 0, w, ?_, ?_, a, c, ?_⟩
      · rw [if_neg (show ¬ (1 : Int32) = 0 by decide)]
        show bnd (f_X8_begin N (cv 8) P') _ = _
        rw [b1, pu_bnd]
        unfold f_X5_clear
        rw [pu_bnd]
      · rw [u1, b2, pu_bnd, wk 17 (by omega) (by omega) (by omega) (by omega) (by omega) (by omega) (by omega) (by omega) (by omega) (by omega), f3]
      · have g : INV0 a c (si (si (cv 0) 1 0) 6 0) T R' P' L' S' (cv 9) (cv 12) (cv 13) (si (cv 15) 3 0) (si (si (cv 16) 4 0) 5 (-1)) (si (cv 17) 6 0) (si (cv 18) 3 0) w := by
          obtain ⟨hP, hS, hT, hIm, hWa, hWb, hRf, hH, hU, hRd, hG, hE⟩ := h
          refine ⟨PR_tr hP0 (fun q hq => b3.2.1 q (by omega)) rfl (fun _ _ => rfl), b4, ⟨0, by omega, rfl, ?_, fun i hi => by omega⟩, Or.inl ⟨rfl, ?_⟩, hWa, hWb, ?_, ⟨0, by omega, rfl, ?_, trivial⟩, ⟨0, by omega, rfl, ?_, ?_, Or.inl ?_, fun i hi => by omega⟩, ⟨?_, ?_⟩, Or.inl rfl, Or.inl rfl⟩
          · rw [wk 2 (by omega) (by omega) (by omega) (by omega) (by omega) (by omega) (by omega) (by omega) (by omega) (by omega)]; exact v2
          · rw [b3.1 48 (by omega) (by omega) (by omega) (by omega), u8]
          · unfold rfR at *
            have ek : ∀ q, 50 ≤ q → q ≤ 53 → w.1 q = v.1 q := fun q x y => (wk q (by omega) (by omega) (by omega) (by omega) (by omega) (by omega) (by omega) (by omega) (by omega) (by omega)).trans (vk q (by omega))
            rw [ek 50 (by omega) (by omega), ek 51 (by omega) (by omega), ek 52 (by omega) (by omega), ek 53 (by omega) (by omega), b3.2.1 54 (by omega), u10 54 (by omega), e3.2.1 54 (by omega)]
            exact hRf
          · rw [b3.1 49 (by omega) (by omega) (by omega) (by omega), u9]; rfl
          · rw [b3.1 64 (by omega) (by omega) (by omega) (by omega), u6]; rfl
          · rw [b3.1 65 (by omega) (by omega) (by omega) (by omega), u7]; rfl
          · rw [b3.1 65 (by omega) (by omega) (by omega) (by omega), u7]
          · rw [f4, b3.1 25 (by omega) (by omega) (by omega) (by omega), u4, f1]
          · rw [f5, b3.1 26 (by omega) (by omega) (by omega) (by omega), u5, f6]
        exact g
  · refine ⟨-2, false, cv 0, cv 2, cv 3, cv 4, cv 5, cv 8, cv 15, cv 16, cv 17, cv 18, si v 0 0, ?_, ?_, n, m, inv_kv h (LF.refl _) (KV_0 v)⟩
    · unfold f_X11_text; rw [if_neg c1, k2, if_neg c2]
    · unfold f_X12_text; rw [if_neg c1, k3, if_neg c2]
theorem steps_all (N : Nat) (hN : 2000 < N) : STEPS N INV := ⟨st_feed N (by omega), st_text N hN, st_fault N, st_named N (by omega), st_party N, st_wish N, st_sitting N (by omega), st_law N (by omega), st_give N (by omega), st_sign N (by omega), st_price N (by omega), st_days N (by omega), st_best N (by omega), st_bestSum N (by omega), st_choice N (by omega), st_level N hN, st_crowd N hN, st_late N (by omega), st_catchUp N (by omega), st_hands N (by omega), st_empties N (by omega), st_likes N (by omega), st_stays N (by omega), st_misses N (by omega), st_mostCross N (by omega), st_without N (by omega), st_swap N (by omega), st_later N (by omega), st_rests N (by omega), st_rest N (by omega), st_note N, st_out N, st_known N, st_lingered N (by omega), st_chance N (by omega), st_tried N (by omega), st_undo N (by omega), st_keep N (by omega), st_back N (by omega), st_count N (by omega)⟩
