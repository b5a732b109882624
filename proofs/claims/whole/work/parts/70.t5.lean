/-! text: an E, its levels -/
variable {N n cnt : Nat} {b : Nat → Nat} {K : VV} {E : Nat → Nat}
theorem rank_w : ∀ j, j < 22 → (f_X7_rankOf (nI (32 + pm j)) = some 0 ∧ ¬ nI j = 12 ∧ ¬ nI j = 13) ∨ (j = 12 ∧ f_X7_rankOf (nI (32 + pm j)) = some 1 ∧ nI (32 + pm j) = 44) ∨ (j = 13 ∧ f_X7_rankOf (nI (32 + pm j)) = some 2 ∧ nI (32 + pm j) = 45) := by decide +kernel
theorem tok_view {k vl s w : Int32} (h : tokR k vl s w) : (f_X7_rankOf k = some 0 ∧ ¬ (s = 3 ∧ (w = 42 ∨ w = 47 ∨ w = 43 ∨ w = 45 ∨ w = 60 ∨ w = 62 ∨ w = 61 ∨ 256 ≤ w)) ∧ ¬ (s = 0 ∧ (w = 12 ∨ w = 13))) ∨ (f_X7_rankOf k = some 1 ∧ s = 0 ∧ w = 12 ∧ k = 44) ∨ (f_X7_rankOf k = some 2 ∧ s = 0 ∧ w = 13 ∧ k = 45) ∨ (f_X7_rankOf k = some 3 ∧ s = 3 ∧ (w = 60 ∨ w = 62 ∨ w = 61 ∨ 256 ≤ w) ∧ ¬ (w = 42 ∨ w = 47 ∨ w = 43 ∨ w = 45) ∧ kb k w) ∨ (f_X7_rankOf k = some 4 ∧ s = 3 ∧ (w = 43 ∨ w = 45) ∧ kb k w) ∨ (f_X7_rankOf k = some 5 ∧ s = 3 ∧ (w = 42 ∨ w = 47) ∧ kb k w) := by
  rcases h with ⟨rfl, rfl⟩ | ⟨rfl, rfl⟩ | ⟨rfl, rfl, _⟩ | ⟨rfl, rfl, _⟩ | ⟨rfl, h, h44, h45⟩ | ⟨rfl, j, hj, rfl, rfl⟩
  · exact Or.inl ⟨rfl, fun h => absurd h.1 (by decide), fun h => absurd h.1 (by decide)⟩
  · exact Or.inl ⟨rfl, fun h => absurd h.1 (by decide), fun h => absurd h.1 (by decide)⟩
  · exact Or.inl ⟨rfl, fun h => absurd h.1 (by decide), fun h => absurd h.1 (by decide)⟩
  · exact Or.inl ⟨rfl, fun h => absurd h.1 (by decide), fun h => absurd h.1 (by decide)⟩
  · rcases h with ⟨rfl, rfl⟩ | ⟨rfl, rfl⟩ | ⟨rfl, rfl⟩ | h
    · exact Or.inl ⟨rfl, by decide, by decide⟩
    · exact Or.inl ⟨rfl, by decide, by decide⟩
    · exact Or.inl ⟨rfl, by decide, by decide⟩
    · have hk := h
      rcases h with ⟨rfl, rfl⟩ | ⟨rfl, rfl⟩ | ⟨rfl, rfl⟩ | ⟨rfl, rfl⟩ | ⟨rfl, rfl⟩ | ⟨rfl, rfl⟩ | ⟨rfl, rfl⟩ | ⟨rfl, rfl⟩ | ⟨rfl, rfl⟩ | ⟨rfl, rfl⟩ | ⟨rfl, rfl⟩ | ⟨rfl, rfl⟩
      · exact Or.inr (Or.inr (Or.inr (Or.inr (Or.inl ⟨rfl, rfl, Or.inl rfl, hk⟩))))
      · exact Or.inr (Or.inr (Or.inr (Or.inr (Or.inl ⟨rfl, rfl, Or.inr rfl, hk⟩))))
      · exact Or.inr (Or.inr (Or.inr (Or.inr (Or.inr ⟨rfl, rfl, Or.inl rfl, hk⟩))))
      · exact Or.inr (Or.inr (Or.inr (Or.inr (Or.inr ⟨rfl, rfl, Or.inr rfl, hk⟩))))
      · exact Or.inr (Or.inr (Or.inr (Or.inl ⟨rfl, rfl, by decide, by decide, hk⟩)))
      · exact Or.inr (Or.inr (Or.inr (Or.inl ⟨rfl, rfl, by decide, by decide, hk⟩)))
      · exact Or.inr (Or.inr (Or.inr (Or.inl ⟨rfl, rfl, by decide, by decide, hk⟩)))
      · exact Or.inr (Or.inr (Or.inr (Or.inl ⟨rfl, rfl, by decide, by decide, hk⟩)))
      · exact Or.inr (Or.inr (Or.inr (Or.inl ⟨rfl, rfl, by decide, by decide, hk⟩)))
      · exact Or.inr (Or.inr (Or.inr (Or.inl ⟨rfl, rfl, by decide, by decide, hk⟩)))
      · exact absurd rfl h44
      · exact absurd rfl h45
  · rcases rank_w j hj with ⟨a1, a2, a3⟩ | ⟨rfl, a2, a3⟩ | ⟨rfl, a2, a3⟩
    · exact Or.inl ⟨a1, fun h => absurd h.1 (by decide), fun h => by
        rcases h.2 with h | h
        · exact a2 h
        · exact a3 h⟩
    · exact Or.inr (Or.inl ⟨a2, rfl, rfl, a3⟩)
    · exact Or.inr (Or.inr (Or.inl ⟨a2, rfl, rfl, a3⟩))
theorem bnd_as {α β γ : Type} (o : Option α) (f : α → Option β) (g : β → Option γ) : bnd (bnd o f) g = bnd o (fun x => bnd (f x) g) := by
  cases o with
  | none => rfl
  | some a => rfl
theorem s78_of {t : Option (Int32 × VV × VV)} {G : VV → VV → Option (Int32 × VV × VV)} {k z x : Int32} {R' L' : VV} (h : bnd t (fun t => if t.1 = 0 then some (0, t.2.1, t.2.2) else bnd (G t.2.1 t.2.2) (fun u => if u.1 = 0 then some (0, u.2.1, u.2.2) else bnd (f_X3_put u.2.2 k 0) (fun y => some (1, u.2.1, y)))) = some (z, R', L')) : bnd t (fun t => if t.1 = 0 then inrO (some (0, t.2.1, t.2.2)) else bnd (G t.2.1 t.2.2) (fun u => if u.1 = 0 then inrO (some (0, u.2.1, u.2.2)) else bnd (f_X3_put u.2.2 k 0) (fun y => some (.inl (x, u.2.1, y))))) = ((if z = 0 then some (.inr (0, R', L')) else some (.inl (x, R', L'))) : Option ((Int32 × VV × VV) ⊕ (Int32 × VV × VV))) := by
  cases t with
  | none => cases h
  | some t =>
    rw [pu_bnd] at h ⊢
    by_cases c : t.1 = 0
    · rw [if_pos c] at h ⊢
      injection h with h
      injection h with h1 h2
      injection h2 with h2 h3
      rw [pu_inrO, ← h1, if_pos rfl, h2, h3]
    · rw [if_neg c] at h ⊢
      cases hG : G t.2.1 t.2.2 with
      | none => rw [hG] at h; cases h
      | some u =>
        rw [hG, pu_bnd] at h
        rw [pu_bnd]
        by_cases c2 : u.1 = 0
        · rw [if_pos c2] at h ⊢
          injection h with h
          injection h with h1 h2
          injection h2 with h2 h3
          rw [pu_inrO, ← h1, if_pos rfl, h2, h3]
        · rw [if_neg c2] at h ⊢
          cases hp : f_X3_put u.2.2 k 0 with
          | none => rw [hp] at h; cases h
          | some y =>
            rw [hp, pu_bnd] at h
            rw [pu_bnd]
            injection h with h
            injection h with h1 h2
            injection h2 with h2 h3
            rw [← h1, if_neg (by decide), h2, h3]
theorem nots0 (N : Nat) (hN : 0 < N) {rc : VV → VV → VV → VV → Int32 → Int32 → Option (Int32 × VV × VV)} (R K P L : VV) : f_X7_readRank_b141 N rc R K P L 0 = some (1, R, L) := by
  unfold f_X7_readRank_b141
  refine itr_e hN ?_
  show f_X7_readRank_s144 N rc R K P L 0 0 = _
  unfold f_X7_readRank_s144
  rw [if_pos (show (0 : Int32) ≤ 0 from by decide), pu_inrO]
/-- what the reference's loop does at a token -/
def BS (N : Nat) (r : Nat) (F : VV → Option VV) (B : VV → Option (VV ⊕ VV)) : Prop := (∀ v, ¬ v.1 23 = 0 → B v = some (.inr v)) ∧ ∀ v k vl, v.1 23 = 0 → tokR k vl (v.1 21) (v.1 22) → (f_X7_rankOf k = some (nI r) ∧ ∃ w, kb k w ∧ B v = bnd (bnd (f_X12_knot v) (fun a => bnd (f_X12_goOn N a) (fun c => bnd (F c) (fun e => f_X12_puts e 2 w)))) (fun d => some (.inl d))) ∨ (∃ r', f_X7_rankOf k = some r' ∧ ¬ r' = nI r ∧ B v = some (.inr v))
theorem loopR (h : TKS N n cnt b K E) (hN : 2000 < N) {op r : Nat} (hr : r = 1 ∨ r = 2 ∨ r = 4 ∨ r = 5) {rc : VV → VV → VV → VV → Int32 → Int32 → Option (Int32 × VV × VV)} {F : VV → Option VV} {B : VV → Option (VV ⊕ VV)} (P : VV) (hM : MT n cnt b K E op (fun R L => rc R K P L (nI (r + 1)) (nI op)) F) (hB : BS N r F B) : MT n cnt b K E op (fun R L => f_X7_readRank_body N rc R K P L (nI r) (nI op)) (fun v => bnd (F v) (fun q => itr B N q)) := by
  have fl : ∀ v, ¬ v.1 23 = 0 → itr B N v = some v := fun v hv => itr_e (by omega) (hB.1 v hv)
  refine ⟨fun j l q R L v hg => ?_, fun v hv => by show bnd (F v) _ = _; rw [hM.2 v hv, pu_bnd, fl v hv]⟩
  have b49 : ∀ o, f_X7_readRank_b49 N rc R K P L (nI r) (nI op) 0 = some o → f_X7_readRank_body N rc R K P L (nI r) (nI op) = some o := by
    intro o ho
    unfold f_X7_readRank_body
    rw [if_pos (show nI (r) < (6 : Int32) from nI_lt (a := r) (b := 6) (by omega) (by omega))]
    refine itr_e (by omega) ?_
    show f_X7_readRank_s14 N rc R K P L (nI r) (nI op) 0 = _
    unfold f_X7_readRank_s14
    rw [if_neg (show ¬ (64 : Int32) < 0 by decide), if_neg (show ¬ nI (r) = (3 : Int32) from fun hq9 => absurd ((nI_eq (a := r) (b := 3) (by omega) (by omega)).mp hq9) (by omega)), ho, pu_inrO]
  obtain ⟨z, R1, L1, v1, p1, p2, p3, p4⟩ := hM.1 j l q R L v hg
  have p1' : rc R K P L (nI r + 1) (nI op) = some (z, R1, L1) := by rw [nI_1]; exact p1
  rcases p4 with ⟨rfl, p5⟩ | ⟨rfl, j1, l1, q1, p5, p6, p7, p8, p9, p10⟩
  · have hf : ¬ v1.1 23 = 0 := by rw [p5.1]; exact p5.2.1
    refine ⟨0, R1, L1, v1, b49 _ ?_, by show bnd (F v) _ = _; rw [p2, pu_bnd, fl v1 hf], p3, Or.inl ⟨rfl, p5⟩⟩
    unfold f_X7_readRank_b49
    rw [p1', pu_bnd, if_pos rfl]
  · obtain ⟨r0, r1, k1, k2, k3⟩ := itr2x (A := fun q : Int32 × VV × VV => f_X7_readRank_s78 N rc q.2.1 K P q.2.2 (nI r) (nI op) 0 64 q.1) (B := B) (fun x s s' => ∃ i j' l' q', x = 64 - q' ∧ s.1 = nI i ∧ GS n cnt b K E op j' l' q' s.2.1 s.2.2 s' ∧ EF v s' ∧ j < j' ∧ q + i < q' ∧ l' = l + (q' - q) ∧ SM l R L v s.2.1 s.2.2 s' ∧ ∀ d, dep (s.2.2.2.1 0) (l' - l) l d = some (d + 1)) (fun r0 r1 => EF v r1 ∧ ((r0.1 = 0 ∧ FT r0.2.1 r1) ∨ (r0.1 = 1 ∧ ∃ j' l' q', GS n cnt b K E op j' l' q' r0.2.1 r0.2.2 r1 ∧ j < j' ∧ q < q' ∧ l' = l + (q' - q) ∧ SM l R L v r0.2.1 r0.2.2 r1 ∧ ∀ d, dep (r0.2.2.2.1 0) (l' - l) l d = some (d + 1)))) 1 (by
      intro x s s' hR
      obtain ⟨s1, R2, L2⟩ := s
      obtain ⟨i, j', l', q', hx, f1, f2, f3, f4, f5, f6, f7, f8⟩ := hR
      simp only at f1 f2 f7 f8
      subst f1
      simp only
      obtain ⟨⟨g1, g2, g3⟩, g4, g5, ⟨g6, g7⟩, g8, g9, g10⟩ := id f2
      obtain ⟨kd, vd, _⟩ := kindR h g5 g1
      unfold f_X7_readRank_s78
      rw [if_neg (show ¬ (64 : Int32) ≤ nI (i) from nI_ge (a := i) (b := 64) (by omega) (by omega)), kd, pu_bnd]
      rcases hB.2 s' _ _ g6 g4.2.2.2 with ⟨u1, w, u2, u3⟩ | ⟨r', u1, u2, u3⟩
      · have hj : j' < cnt := by
          rcases Nat.lt_or_ge j' cnt with hh | hh
          · exact hh
          · have e : j' = cnt := by omega
            rw [e, h.2.2.2.2.2] at u1
            have : some (0 : Int32) = some (nI r) := u1
            injection this with this
            exact absurd this.symm (nI_ne0 (by omega) (by omega))
        obtain ⟨z, R3, L3, v3, i1, i2, i3, i4⟩ := iterR (G := fun R L => rc R K P L (nI (r + 1)) (nI op)) h P hM f2 hj u2
        rw [u1, pu_bnd, if_pos rfl, pu_bnd, nI_1, nI_1, s78_of (G := fun R L => rc R K P L (nI (r + 1)) (nI op)) i1]
        rcases i4 with ⟨rfl, i5⟩ | ⟨rfl, j3, l3, q3, i5, i6, i7, i8, i9, i10⟩
        · -- a fault: the reference goes on once more, and ends
          right
          rw [if_pos rfl]
          have hf : ¬ v3.1 23 = 0 := by rw [i5.1]; exact i5.2.1
          refine ⟨_, rfl, fun nn hnn => ⟨v3, ?_, f3.trans i3, Or.inl ⟨rfl, i5⟩⟩⟩
          rw [itr_s (by omega) (by rw [u3, i2, pu_bnd])]
          exact itr_e (by omega) (hB.1 v3 hf)
        · left
          rw [if_neg (by decide), u3, i2, pu_bnd]
          refine ⟨64 - q3, _, _, by have := i5.1; omega, rfl, rfl, i + 1, j3, l3, q3, rfl, rfl, i5, f3.trans i3, by omega, by omega, by omega, f7.trans i9 (by omega), fun d => ?_⟩
          rw [show l3 - l = (l' - l) + (l3 - l') by omega, dep_app, dep_c (Q := L2.2.1 0) (l' - l) l d (fun x h1 h2 => (i9.2.2.2.1 x (by omega)).1), f8 d]
          show dep (L3.2.1 0) (l3 - l') (l + (l' - l)) (d + 1) = some (d + 1)
          rw [show l + (l' - l) = l' by omega]
          exact i10 (d + 1) (by omega)
      · right
        rw [u1, pu_bnd, if_neg u2, nots0 N (by omega), pu_inrO]
        exact ⟨_, rfl, fun nn hnn => ⟨s', itr_e (by omega) u3, f3, Or.inr ⟨rfl, j', l', q', f2, f4, by omega, f6, f7, f8⟩⟩⟩) N N (64 - q1) (0, R1, L1) v1 (by omega) (by omega) ⟨0, j1, l1, q1, rfl, rfl, p5, p3, p6, by omega, by omega, p9, p10⟩
    obtain ⟨z, R2, L2⟩ := r0
    simp only at k3
    refine ⟨z, R2, L2, r1, b49 _ ?_, by show bnd (F v) _ = _; rw [p2, pu_bnd, k2], k3.1, k3.2⟩
    unfold f_X7_readRank_b49 f_X7_readRank_b73
    rw [p1', pu_bnd, if_neg (by show ¬ (1 : Int32) = 0; decide), if_neg (show ¬ nI (r) = (3 : Int32) from fun hq9 => absurd ((nI_eq (a := r) (b := 3) (by omega) (by omega)).mp hq9) (by omega))]
    exact k1
