/-- a law: the same knots on both sides, and they make one value -/
def lawR (L v : VV) (r : Nat) : Prop := ∃ a b : Nat, L.2.1 4 r = nI a ∧ v.2.1 12 r = nI a ∧ L.2.1 5 r = nI b ∧ v.2.1 13 r = nI b ∧ a ≤ b ∧ b ≤ 64 ∧ (a < b → dep (L.2.1 0) (b - a) a 0 = some 1) ∧ (∀ i, a ≤ i → i < b → kc (L.2.1 0 i) (L.2.1 1 i) (v.2.1 14 i) (v.2.1 15 i))
theorem cw_push (N : Nat) (L : VV) (r d i : Nat) (x : Int64) (hx : bdd x) (hd : d < 64) : f_X3_work_b167 N L (nI r) (nI d) (nI i) x = some (.inl (nI (d + 1), nI (i + 1), sj L 7 d x)) := by
  unfold f_X3_work_b167
  rw [if_neg hx.1, if_pos (Int64.not_lt.mp hx.2), pu_gin hd (by omega), nI_clamp (by omega), nI_1, nI_1]
theorem cw_err (N : Nat) (L : VV) (r d i : Nat) (x : Int64) (hx : ¬ bdd x) : f_X3_work_b167 N L (nI r) (nI d) (nI i) x = some (.inr (-9223372036854775808, L)) := by
  unfold f_X3_work_b167 f_X3_work_b185
  by_cases h : (1000000000000 : Int64) < x
  · rw [if_pos h, pu_inrO]
  · rw [if_neg h, if_neg (fun h' => hx ⟨h, Int64.not_lt.mpr h'⟩), pu_inrO]
theorem cw_in (N : Nat) (L : VV) (r d i b : Nat) (hr : r < 3) (hb : L.2.1 5 r = nI b) (hb64 : b ≤ 64) (hi : i < b) :
    f_X3_work_s25 N L (nI r) (nI d) (nI i) = if L.2.1 0 i = 46 then f_X3_work_b73 N L (nI r) (nI d) (nI i) (L.2.1 0 i) 1 else bnd (f_X3_isLeaf (L.2.1 0 i)) (fun q2501 => if q2501 = 0 then f_X3_work_b73 N L (nI r) (nI d) (nI i) (L.2.1 0 i) 2 else f_X3_work_b73 N L (nI r) (nI d) (nI i) (L.2.1 0 i) 0) := by
  unfold f_X3_work_s25
  rw [pu_gin hr (by omega), nI_clamp (show r < 2 ^ 31 by omega), hb, if_neg (nI_ge hi (by omega)), if_neg (show ¬ (64 : Int32) ≤ nI (i) from nI_ge (a := i) (b := 64) (by omega) (by omega)), pu_gin (show i < 64 by omega) (by omega), nI_clamp (show i < 2 ^ 31 by omega)]
theorem cw_out (N : Nat) (L : VV) (r b : Nat) (hr : r < 3) (hb : L.2.1 5 r = nI b) (hb64 : b ≤ 64) :
    f_X3_work_s25 N L (nI r) (nI 1) (nI b) = some (.inr (L.2.2 7 0, L)) := by
  unfold f_X3_work_s25
  rw [pu_gin hr (by omega), nI_clamp (show r < 2 ^ 31 by omega), hb, if_pos (nI_le (Nat.le_refl b) (by omega))]
  rfl
theorem cw_leaf (N : Nat) (L : VV) (r d i b : Nat) (hr : r < 3) (hb : L.2.1 5 r = nI b) (hb64 : b ≤ 64) (hi : i < b) (hd : d ≤ 32) (x : Int64) (hx : bdd x) (hk : (L.2.1 0 i = 2 ∧ x = (L.2.1 1 i).toInt64) ∨ (∃ j : Nat, j < 7 ∧ L.2.1 0 i = nI (47 + j) ∧ x = (L.2.1 6 j).toInt64)) :
    f_X3_work_s25 N L (nI r) (nI d) (nI i) = some (.inl (nI (d + 1), nI (i + 1), sj L 7 d x)) := by
  rw [cw_in N L r d i b hr hb hb64 hi]
  have h0 : nI d - 0 = nI d := by rw [show (0 : Int32) = nI 0 from rfl, pk_sub (by omega)]; rfl
  have h73 : ∀ k : Int32, f_X3_leaf L k (L.2.1 1 i) = some x → f_X3_work_b73 N L (nI r) (nI d) (nI i) k 0 = some (.inl (nI (d + 1), nI (i + 1), sj L 7 d x)) := by
    intro k hk
    unfold f_X3_work_b73
    rw [h0, if_neg (nI_pos (by omega)), nI_1, if_pos (show nI (d + 1) < (64 : Int32) from nI_lt (a := d + 1) (b := 64) (by omega) (by omega)), if_neg (by decide), if_neg (by decide), pu_gin (show i < 64 by omega) (by omega), nI_clamp (show i < 2 ^ 31 by omega), hk, pu_bnd]
    exact cw_push N L r d i x hx (by omega)
  rcases hk with ⟨hk, hx⟩ | ⟨j, hj, hk, hx⟩
  · rw [hk, if_neg (by decide)]
    unfold f_X3_isLeaf f_X3_isLeaf_b11
    rw [if_pos rfl, pu_bnd, if_neg (by decide)]
    apply h73
    unfold f_X3_leaf f_X3_leaf_b25
    rw [if_pos (by decide), hx]
  · have h46 : ¬ nI (47 + j) = 46 := by rw [show (46 : Int32) = nI 46 from rfl, nI_eq (by omega) (by omega)]; omega
    have h2 : ¬ nI (47 + j) = 2 := by rw [show (2 : Int32) = nI 2 from rfl, nI_eq (by omega) (by omega)]; omega
    have h47 : ¬ nI (47 + j) < 47 := nI_nlt (a := 47 + j) (b := 47) (by omega) (by omega)
    rw [hk, if_neg h46]
    unfold f_X3_isLeaf f_X3_isLeaf_b11
    rw [if_neg h2, if_neg h47, pu_bnd, if_neg (by decide)]
    apply h73
    have hs : nI (47 + j) - 47 = nI j := by rw [show (47 : Int32) = nI 47 from rfl, pk_sub (by omega)]; congr 1; omega
    unfold f_X3_leaf
    rw [hs, if_neg (nI_pos (by omega)), if_neg (show ¬ (7 : Int32) ≤ nI (j) from nI_ge (a := j) (b := 7) (by omega) (by omega)), pu_gin hj (by omega), nI_clamp (by omega), hx]
theorem cw_not (N : Nat) (L : VV) (r e i b : Nat) (hr : r < 3) (hb : L.2.1 5 r = nI b) (hb64 : b ≤ 64) (hi : i < b) (hd : e + 1 ≤ 32) (hk : L.2.1 0 i = 46) :
    f_X3_work_s25 N L (nI r) (nI (e + 1)) (nI i) = some (.inl (nI (e + 1), nI (i + 1), sj L 7 e (if L.2.2 7 e = 0 then 1 else 0))) := by
  rw [cw_in N L r (e + 1) i b hr hb hb64 hi, hk, if_pos rfl]
  unfold f_X3_work_b73 f_X3_work_b148
  rw [nI_pred, if_neg (nI_pos (by omega)), nI_1, if_pos (show nI (e + 1) < (64 : Int32) from nI_lt (a := e + 1) (b := 64) (by omega) (by omega)), if_neg (by decide), if_pos rfl, pu_gin (show e < 64 by omega) (by omega), nI_clamp (show e < 2 ^ 31 by omega)]
  by_cases h : L.2.2 7 e = 0
  · rw [if_pos h, if_pos h]; exact cw_push N L r e i 1 bdd_1 (by omega)
  · rw [if_neg h, if_neg h]; exact cw_push N L r e i 0 bdd_0 (by omega)
theorem cw_bin (N : Nat) (L : VV) (r e i b : Nat) (hr : r < 3) (hb : L.2.1 5 r = nI b) (hb64 : b ≤ 64) (hi : i < b) (hd : e + 2 ≤ 32) (w : Int32) (hk : kb (L.2.1 0 i) w) (x : Int64) (hx : f_X3_join (L.2.1 0 i) (L.2.2 7 e) (L.2.2 7 (e + 1)) = some x) :
    f_X3_work_s25 N L (nI r) (nI (e + 2)) (nI i) = f_X3_work_b167 N L (nI r) (nI e) (nI i) x := by
  rw [cw_in N L r (e + 2) i b hr hb hb64 hi]
  have hk' : ¬ L.2.1 0 i = 46 ∧ ¬ L.2.1 0 i = 2 ∧ L.2.1 0 i < 47 := by
    unfold kb at hk
    rcases hk with ⟨h, _⟩ | ⟨h, _⟩ | ⟨h, _⟩ | ⟨h, _⟩ | ⟨h, _⟩ | ⟨h, _⟩ | ⟨h, _⟩ | ⟨h, _⟩ | ⟨h, _⟩ | ⟨h, _⟩ | ⟨h, _⟩ | ⟨h, _⟩ <;> rw [h] <;> decide
  have e2 : nI (e + 2) - 2 = nI e := by rw [show (2 : Int32) = nI 2 from rfl, pk_sub (by omega)]; rfl
  rw [if_neg hk'.1]
  unfold f_X3_isLeaf
  rw [if_neg hk'.2.1, if_pos hk'.2.2, pu_bnd, if_pos rfl]
  unfold f_X3_work_b73
  rw [e2, if_neg (nI_pos (by omega)), nI_1, if_pos (show nI (e + 1) < (64 : Int32) from nI_lt (a := e + 1) (b := 64) (by omega) (by omega)), if_pos rfl, pu_gin (show e < 64 by omega) (by omega), pu_gin (show e + 1 < 64 by omega) (by omega), nI_clamp (show e < 2 ^ 31 by omega), nI_clamp (show e + 1 < 2 ^ 31 by omega), hx, pu_bnd]
/-- the reference's turn at a knot -/
theorem rw_in (N : Nat) (v : VV) (r i b : Nat) (hr : r < 3) (hb : v.2.1 13 r = nI b) (hb64 : b ≤ 64) (hi : i < b) :
    f_X12_goes_s12 N v (nI r) (nI i) = if v.2.1 14 i = 2 then bnd (f_X12_works v (v.2.1 15 i)) (fun q1201 => if q1201.1 = 0 then inrO (some (0, q1201.2)) else f_X12_goes_b96 N q1201.2 (nI r) (nI i)) else if v.2.1 14 i = 0 then f_X12_goes_b85 N v (nI r) (nI i) ((v.2.1 15 i).toInt64) (v.1 31) else gin (v.2.1 15 i) 7 (f_X12_goes_b85 N v (nI r) (nI i) (v.2.2 29 ((v.2.1 15 i).toNatClampNeg)) (v.1 31)) := by
  unfold f_X12_goes_s12
  simp only [pu_gin (show r < 6 by omega) (show 6 < 2 ^ 31 by omega), nI_clamp (show r < 2 ^ 31 by omega), hb, if_neg (nI_ge hi (by omega)), pu_gin (show i < 128 by omega) (show 128 < 2 ^ 31 by omega), nI_clamp (show i < 2 ^ 31 by omega)]
theorem rw_out (N : Nat) (v : VV) (r b : Nat) (hr : r < 3) (hb : v.2.1 13 r = nI b) (hb64 : b ≤ 64) :
    f_X12_goes_s12 N v (nI r) (nI b) = some (.inr (1, v)) := by
  unfold f_X12_goes_s12
  rw [pu_gin (show r < 6 by omega) (by omega), nI_clamp (show r < 2 ^ 31 by omega), hb, if_pos (nI_le (Nat.le_refl b) (by omega))]
  rfl
theorem rw_push (N : Nat) (v : VV) (r i d : Nat) (x : Int64) (hd : d < 64) (h31 : v.1 31 = nI d) : f_X12_goes_b85 N v (nI r) (nI i) x (v.1 31) = some (.inl (nI (i + 1), si (sj v 30 d x) 31 (nI (d + 1)))) := by
  unfold f_X12_goes_b85 f_X12_goes_b96
  rw [h31, pu_gin hd (by omega), nI_clamp (by omega), nI_1, nI_1]
/-- both loops, side by side -/
def goR (L v : VV) (a b m : Nat) (s : Int32 × Int32 × VV) (t : Int32 × VV) : Prop := ∃ i d : Nat, m = b - i ∧ a ≤ i ∧ i ≤ b ∧ s.1 = nI d ∧ s.2.1 = nI i ∧ t.1 = nI i ∧ t.2.1 31 = nI d ∧ d ≤ i - a ∧ dep (L.2.1 0) (b - i) i d = some 1 ∧ (∀ j, j < d → s.2.2.2.2 7 j = t.2.2.2 30 j ∧ bdd (t.2.2.2 30 j)) ∧ s.2.2.1 = L.1 ∧ s.2.2.2.1 = L.2.1 ∧ wkF v t.2
def goQ (L v : VV) (r : Int64 × VV) (r' : Int32 × VV) : Prop := r.2.1 = L.1 ∧ r.2.2.1 = L.2.1 ∧ wkF v r'.2 ∧ ((r.1 = -9223372036854775808 ∧ r'.1 = 0) ∨ (bdd r.1 ∧ r'.1 = 1 ∧ r'.2.2.2 30 0 = r.1))
theorem wkF.trans {u v w : VV} (h : wkF u v) (h' : wkF v w) : wkF u w := ⟨h'.1.trans h.1, fun k hk => (h'.2.1 k hk).trans (h.2.1 k hk), h'.2.2.trans h.2.2⟩
theorem go_step (N : Nat) (L v : VV) (r a b : Nat) (hr : r < 3) (hL5 : L.2.1 5 r = nI b) (hv5 : v.2.1 13 r = nI b) (hb : b ≤ 64) (hk : ∀ i, a ≤ i → i < b → kc (L.2.1 0 i) (L.2.1 1 i) (v.2.1 14 i) (v.2.1 15 i)) (hn : ∀ j, j < 7 → (L.2.1 6 j).toInt64 = v.2.2 29 j) (m : Nat) (s : Int32 × Int32 × VV) (t : Int32 × VV) (hR : goR L v a b m s t) :
    (∃ m' s' t', m' < m ∧ f_X3_work_s25 N s.2.2 (nI r) s.1 s.2.1 = some (.inl s') ∧ f_X12_goes_s12 N t.2 (nI r) t.1 = some (.inl t') ∧ goR L v a b m' s' t') ∨ (∃ x x', f_X3_work_s25 N s.2.2 (nI r) s.1 s.2.1 = some (.inr x) ∧ f_X12_goes_s12 N t.2 (nI r) t.1 = some (.inr x') ∧ goQ L v x x') := by
  obtain ⟨s1, s2, C⟩ := s
  obtain ⟨t1, w⟩ := t
  obtain ⟨i, d, hm, hai, hib, h1, h2, h3, h31, hda, hdep, hst, hC1, hC2, hF⟩ := hR
  simp only at h1 h2 h3 h31 hst hC1 hC2 hF
  subst h1 h2 h3
  simp only
  have hF' := hF
  obtain ⟨hw2, hw1, hw29⟩ := hF
  have hC5 : C.2.1 5 r = nI b := by rw [hC2]; exact hL5
  have hw5 : w.2.1 13 r = nI b := by rw [hw2]; exact hv5
  have hd2 := dep_le _ _ _ _ _ hdep
  have hd32 : d ≤ 32 := by omega
  rcases Nat.lt_or_ge i b with hlt | hge
  · obtain ⟨n, hn'⟩ : ∃ n, b - i = n + 1 := ⟨b - i - 1, by omega⟩
    have hkc := hk i hai hlt
    rw [hn'] at hdep
    unfold dep at hdep
    have hle : kn (L.2.1 0 i) ≤ d := by
      by_cases hc : kn (L.2.1 0 i) ≤ d
      · exact hc
      · rw [if_neg hc] at hdep; cases hdep
    rw [if_pos hle] at hdep
    have hbn : b - (i + 1) = n := by omega
    rw [← hbn] at hdep
    have hCi : C.2.1 0 i = L.2.1 0 i := by rw [hC2]
    have hwi : w.2.1 14 i = v.2.1 14 i := by rw [hw2]
    have hwj : w.2.1 15 i = v.2.1 15 i := by rw [hw2]
    have leaf : ∀ x : Int64, bdd x → kn (L.2.1 0 i) = 0 → f_X3_work_s25 N C (nI r) (nI d) (nI i) = some (.inl (nI (d + 1), nI (i + 1), sj C 7 d x)) → f_X12_goes_s12 N w (nI r) (nI i) = some (.inl (nI (i + 1), si (sj w 30 d x) 31 (nI (d + 1)))) → (∃ m' s' t', m' < m ∧ f_X3_work_s25 N C (nI r) (nI d) (nI i) = some (.inl s') ∧ f_X12_goes_s12 N w (nI r) (nI i) = some (.inl t') ∧ goR L v a b m' s' t') ∨ (∃ x x', f_X3_work_s25 N C (nI r) (nI d) (nI i) = some (.inr x) ∧ f_X12_goes_s12 N w (nI r) (nI i) = some (.inr x') ∧ goQ L v x x') := by
      intro x hx hk0 h1 h2
      left
      rw [hk0] at hdep
      refine ⟨b - (i + 1), _, _, by omega, h1, h2, i + 1, d + 1, rfl, by omega, by omega, rfl, rfl, rfl, rfl, by omega, hdep, ?_, hC1, hC2, ?_⟩
      · intro j hj
        show vp_updL _ d x j = vp_updL _ d x j ∧ bdd (vp_updL _ d x j)
        by_cases e : j = d
        · subst e; rw [pk_uLs, pk_uLs]; exact ⟨rfl, hx⟩
        · rw [pk_uLn e, pk_uLn e]; exact hst j (by omega)
      · exact ⟨hw2, fun k hk => by show (if k = 31 then _ else _) = _; rw [if_neg hk]; exact hw1 k hk, hw29⟩
    rcases hkc with ⟨hk2, hs0, hw0⟩ | ⟨j, hj, hkj, hs1, hwn⟩ | ⟨hs2, hk46, hw260⟩ | ⟨hs2, hkb⟩
    · refine leaf (L.2.1 1 i).toInt64 (bdd_i _) (by unfold kn; rw [hk2]; rfl) (cw_leaf N C r d i b hr hC5 hb hlt hd32 _ (bdd_i _) (Or.inl ⟨by rw [hCi]; exact hk2, by rw [hC2]⟩)) ?_
      rw [rw_in N w r i b hr hw5 hb hlt, hwi, hs0, if_neg (by decide), if_pos rfl, hwj, hw0]
      exact rw_push N w r i d _ (by omega) h31
    · refine leaf (L.2.1 6 j).toInt64 (bdd_i _) (by unfold kn; rw [hkj, if_neg (show ¬ nI (47 + j) = (46 : Int32) from fun h => absurd ((nI_eq (a := 47 + j) (b := 46) (by omega) (by omega)).mp h) (by omega)), if_neg (show ¬ nI (47 + j) = (2 : Int32) from fun h => absurd ((nI_eq (a := 47 + j) (b := 2) (by omega) (by omega)).mp h) (by omega)), if_neg (show ¬ nI (47 + j) < (47 : Int32) from nI_nlt (a := 47 + j) (b := 47) (by omega) (by omega))]) (cw_leaf N C r d i b hr hC5 hb hlt hd32 _ (bdd_i _) (Or.inr ⟨j, hj, by rw [hCi]; exact hkj, by rw [hC2]⟩)) ?_
      rw [rw_in N w r i b hr hw5 hb hlt, hwi, hs1, if_neg (by decide), if_neg (by decide), hwj, hwn, pu_gin (show j < 7 by omega) (show 7 < 2 ^ 31 by omega), nI_clamp (show j < 2 ^ 31 by omega), hw29, ← hn j hj]
      exact rw_push N w r i d _ (by omega) h31
    · have hk1 : kn (L.2.1 0 i) = 1 := by unfold kn; rw [hk46]; rfl
      rw [hk1] at hdep hle
      obtain ⟨e, rfl⟩ : ∃ e, d = e + 1 := ⟨d - 1, by omega⟩
      have hv1 : f_X12_works w 260 = some (1, sj w 30 e (if w.2.2 30 e = 0 then 1 else 0)) := by
        unfold f_X12_works f_X12_works_b40 f_X12_is
        rw [h31, nI_pred, pu_gin (show e < 64 by omega) (show 64 < 2 ^ 31 by omega), if_pos rfl, nI_clamp (show e < 2 ^ 31 by omega)]
        by_cases h : w.2.2 30 e = 0
        · rw [if_pos h, if_pos h, if_neg (by decide), pu_bnd, pu_gin (show e < 64 by omega) (show 64 < 2 ^ 31 by omega)]
        · rw [if_neg h, if_neg h, if_pos rfl, pu_bnd, pu_gin (show e < 64 by omega) (show 64 < 2 ^ 31 by omega)]
      left
      refine ⟨b - (i + 1), _, (nI (i + 1), sj w 30 e (if w.2.2 30 e = 0 then 1 else 0)), by omega, cw_not N C r e i b hr hC5 hb hlt (by omega) (by rw [hCi]; exact hk46), ?_, i + 1, e + 1, rfl, by omega, by omega, rfl, rfl, ?_⟩
      · rw [rw_in N w r i b hr hw5 hb hlt, hwi, hs2, if_pos rfl, hwj, hw260, hv1, pu_bnd, if_neg (show ¬ (1 : Int32) = 0 from by decide)]
        unfold f_X12_goes_b96
        rw [nI_1]
      · refine ⟨rfl, h31, by omega, ?_, ?_, hC1, hC2, hw2, hw1, hw29⟩
        · have : e + 1 - 1 + 1 = e + 1 := by omega
          rw [this] at hdep; exact hdep
        · intro j hj
          show vp_updL _ e _ j = vp_updL _ e _ j ∧ bdd (vp_updL _ e _ j)
          by_cases e' : j = e
          · subst e'; rw [pk_uLs, pk_uLs, (hst j (by omega)).1]
            refine ⟨rfl, ?_⟩
            by_cases h : w.2.2 30 j = 0
            · rw [if_pos h]; exact bdd_1
            · rw [if_neg h]; exact bdd_0
          · rw [pk_uLn e', pk_uLn e']; exact hst j (by omega)
    · have hk2 : kn (L.2.1 0 i) = 2 := by
        have hk' : ¬ L.2.1 0 i = 46 ∧ ¬ L.2.1 0 i = 2 ∧ L.2.1 0 i < 47 := by
          unfold kb at hkb
          rcases hkb with ⟨h, _⟩ | ⟨h, _⟩ | ⟨h, _⟩ | ⟨h, _⟩ | ⟨h, _⟩ | ⟨h, _⟩ | ⟨h, _⟩ | ⟨h, _⟩ | ⟨h, _⟩ | ⟨h, _⟩ | ⟨h, _⟩ | ⟨h, _⟩ <;> rw [h] <;> decide
        unfold kn
        rw [if_neg hk'.1, if_neg hk'.2.1, if_pos hk'.2.2]
      rw [hk2] at hdep hle
      obtain ⟨e, rfl⟩ : ∃ e, d = e + 2 := ⟨d - 2, by omega⟩
      obtain ⟨x, z, w', hj, hwk, hFw, hcase⟩ := join_works w e (v.2.1 15 i |> fun _ => L.2.1 0 i) (v.2.1 15 i) (by omega) h31 hkb
      have hcw := cw_bin N C r e i b hr hC5 hb hlt (by omega) (v.2.1 15 i) (by rw [hCi]; exact hkb) x (by rw [hCi, (hst e (by omega)).1, (hst (e + 1) (by omega)).1]; exact hj)
      have hrw : f_X12_goes_s12 N w (nI r) (nI i) = if z = 0 then inrO (some (0, w')) else f_X12_goes_b96 N w' (nI r) (nI i) := by
        rw [rw_in N w r i b hr hw5 hb hlt, hwi, hs2, if_pos rfl, hwj, hwk, pu_bnd]
      rcases hcase with ⟨hx, hz, hwe, hw31, hlow⟩ | ⟨hx, hz⟩
      · left
        refine ⟨b - (i + 1), _, _, by omega, hcw.trans (cw_push N C r e i x hx (by omega)), hrw.trans (by rw [hz, if_neg (by decide)]; rfl), i + 1, e + 1, rfl, by omega, by omega, rfl, rfl, nI_1 i, hw31, by omega, ?_, ?_, hC1, hC2, wkF.trans hF' hFw⟩
        · have : e + 2 - 2 + 1 = e + 1 := by omega
          rw [this] at hdep; exact hdep
        · intro j hj
          show vp_updL _ e x j = w'.2.2 30 j ∧ bdd (w'.2.2 30 j)
          by_cases e' : j = e
          · subst e'; rw [pk_uLs, hwe]; exact ⟨rfl, hx⟩
          · rw [pk_uLn e', hlow j (by omega)]; exact hst j (by omega)
      · right
        exact ⟨_, _, hcw.trans (cw_err N C r e i x hx), hrw.trans (by rw [hz, if_pos rfl]; rfl), hC1, hC2, wkF.trans hF' hFw, Or.inl ⟨rfl, rfl⟩⟩
  · right
    have : i = b := by omega
    subst this
    rw [Nat.sub_self] at hdep
    have hd1 : d = 1 := by unfold dep at hdep; injection hdep
    subst hd1
    refine ⟨_, _, cw_out N C r i hr hC5 hb, rw_out N w r i hr hw5 hb, hC1, hC2, hF', Or.inr ⟨?_, rfl, ?_⟩⟩
    · show bdd (C.2.2 7 0)
      rw [(hst 0 (by omega)).1]; exact (hst 0 (by omega)).2
    · exact (hst 0 (by omega)).1.symm
/-- the whole of it: a law worked out on both sides -/
theorem work_goes (N : Nat) (hN : 66 < N) (L v : VV) (r : Nat) (hr : r < 3) (hL : lawR L v r) (hn : ∀ j, j < 7 → (L.2.1 6 j).toInt64 = v.2.2 29 j) :
    ∃ x L' q, f_X3_work N L (nI r) = some (x, L') ∧ L'.1 = L.1 ∧ L'.2.1 = L.2.1 ∧ f_X12_hasLaw v (nI r) = some q ∧ ((q = 0 ∧ x = -9223372036854775808) ∨ (q = 1 ∧ ∃ z v', f_X12_goes N v (nI r) = some (z, v') ∧ wkF v v' ∧ ((x = -9223372036854775808 ∧ z = 0) ∨ (bdd x ∧ z = 1 ∧ v'.2.2 30 0 = x)))) := by
  obtain ⟨a, b, h4, h12, h5, h13, hab, hb, hdep, hk⟩ := hL
  unfold f_X3_work f_X3_isTold f_X12_hasLaw
  rw [if_neg (nI_pos (show r < 2 ^ 31 by omega)), if_neg (show ¬ (3 : Int32) ≤ nI (r) from nI_ge (a := r) (b := 3) (by omega) (by omega)), pu_gin (show r < 3 by omega) (show 3 < 2 ^ 31 by omega), pu_gin (show r < 3 by omega) (show 3 < 2 ^ 31 by omega), pu_gin (show r < 6 by omega) (show 6 < 2 ^ 31 by omega), pu_gin (show r < 6 by omega) (show 6 < 2 ^ 31 by omega), nI_clamp (show r < 2 ^ 31 by omega), h4, h5, h12, h13]
  rcases Nat.lt_or_ge a b with hlt | hge
  · rw [if_neg (nI_ge hlt (by omega)), pu_bnd, if_neg (by decide), pu_gin (show r < 3 by omega) (show 3 < 2 ^ 31 by omega)]
    have hmx : jmax (nI a) 0 = nI a := by
      unfold jmax
      rw [if_neg (nI_pos (by omega))]
    rw [hmx]
    have := itr2 (goR L v a b) (goQ L v) (go_step N L v r a b hr h5 h13 hb hk hn) N (b - a) (0, nI a, L) (nI a, si v 31 0) (by omega) ⟨a, 0, rfl, Nat.le_refl a, by omega, rfl, rfl, rfl, rfl, by omega, hdep hlt, fun j hj => by omega, rfl, rfl, rfl, fun k hk => by show (if k = 31 then _ else _) = _; rw [if_neg hk], rfl⟩
    obtain ⟨⟨x, L'⟩, ⟨z, v'⟩, hc, hr', hq⟩ := this
    obtain ⟨q1, q2, q3, q4⟩ := hq
    refine ⟨x, L', 1, hc, q1, q2, rfl, Or.inr ⟨rfl, z, v', ?_, q3, q4⟩⟩
    unfold f_X12_goes
    rw [pu_gin (show r < 6 by omega) (show 6 < 2 ^ 31 by omega), nI_clamp (show r < 2 ^ 31 by omega), h12]
    exact hr'
  · have : a = b := by omega
    subst this
    rw [if_pos (nI_le (Nat.le_refl a) (by omega)), pu_bnd, if_pos rfl]
    exact ⟨_, L, 0, rfl, rfl, rfl, rfl, Or.inl ⟨rfl, rfl⟩⟩
