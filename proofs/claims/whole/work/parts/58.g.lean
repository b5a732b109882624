/-! Calls that change the state: tickets, signs, prices, days, undo, images. -/
def KW (v v' : VV) : Prop := (∀ k, k = 2 ∨ k = 25 ∨ k = 26 ∨ k = 48 ∨ (50 ≤ k ∧ k ≤ 53) ∨ k = 64 ∨ k = 65 → v'.1 k = v.1 k) ∧ (∀ k, k ≤ 15 ∨ k = 54 ∨ (66 ≤ k ∧ k ≤ 69) → v'.2.1 k = v.2.1 k) ∧ carS 2 2 v v'
theorem KW.refl (v : VV) : KW v v := ⟨fun _ _ => rfl, fun _ _ => rfl, cs_refl 2 v⟩
theorem KW.trans {u v w : VV} (h : KW u v) (h' : KW v w) : KW u w := ⟨fun k hk => (h'.1 k hk).trans (h.1 k hk), fun k hk => (h'.2.1 k hk).trans (h.2.1 k hk), cs_tr h.2.2 h'.2.2⟩
theorem KW_FR {c : Nat} {v v' : VV} (hc : c ≠ 2) (h : FR c v v') : KW v v' := ⟨fun k hk => h.1 k (by omega) (by omega) (by omega) (by omega), fun k hk => h.2.1 k (by omega), cs_FR h (by omega)⟩
theorem KW_49 (v : VV) (x : Int32) : KW v (si v 49 x) := ⟨fun k hk => by rw [pu_si1, if_neg (by omega)], fun _ _ => rfl, cs_refl 2 v⟩
theorem inv_S {n m : Nat} {X : VV} {T : Nat → Int32} {R P L S Im Wa Wb Z U D E v L' S' Z' v' : VV} (h : INV0 n m X T R P L S Im Wa Wb Z U D E v) (hL : LF L L') (hv : KW v v') (hS' : stR n m 0 S' v') (hH' : ∃ h : Nat, h ≤ 20 ∧ Z'.1 3 = nI h ∧ v'.1 49 = nI h ∧ hsR n m Z' v' h S') : INV0 n m X T R P L' S' Im Wa Wb Z' U D E v' := by
  obtain ⟨hP, hS, hT, hIm, hWa, hWb, hRf, hH, hU, hRd, hG, hE⟩ := h
  have hm := PR_m hP
  refine ⟨PR_tr hP (fun k hk => hv.2.1 k (by omega)) (by rw [hL.1]) (fun k hk => hL.2 k (by omega)), hS', ?_, ?_, hWa, hWb, ?_, hH', ?_, ?_, hG, hE⟩
  · unfold tpR at *; rw [hv.1 2 (by omega), hv.2.1 1 (by omega)]; exact hT
  · rcases hIm with ⟨a, b⟩ | ⟨a, b, c⟩
    · exact Or.inl ⟨a, (hv.1 48 (by omega)).trans b⟩
    · exact Or.inr ⟨a, (hv.1 48 (by omega)).trans b, st_cs hm c hv.2.2⟩
  · unfold rfR at *
    rw [hv.1 50 (by omega), hv.1 51 (by omega), hv.1 52 (by omega), hv.1 53 (by omega), hv.2.1 54 (by omega)]
    exact hRf
  · unfold ntR at *; rw [hv.1 64 (by omega), hv.1 65 (by omega), hv.2.1 66 (by omega), hv.2.1 67 (by omega), hv.2.1 68 (by omega), hv.2.1 69 (by omega)]; exact hU
  · unfold rdR at *; rw [hv.1 25 (by omega), hv.1 26 (by omega)]; exact hRd
/-- all moved down by one -/
theorem hs_sh {n m : Nat} {Z Z' v v' : VV} (hm : m ≤ 3) : ∀ (h : Nat) (S : VV), (∀ i, i < h → Z'.2.1 0 i = Z.2.1 0 (i + 1) ∧ Z'.2.1 1 i = Z.2.1 1 (i + 1) ∧ Z'.2.1 2 i = Z.2.1 2 (i + 1)) → (∀ i, i < h → carS (3 + (i + 1)) (3 + i) v v') → hsR n m Z v (h + 1) S → hsR n m Z' v' h S := by
  intro h
  induction h with
  | zero => intro S _ _ _; exact trivial
  | succ h ih =>
    intro S hz hc hs
    obtain ⟨h1, h2, h3⟩ := hs
    obtain ⟨e0, e1, e2⟩ := hz h (by omega)
    have hu : undS Z' h S = undS Z (h + 1) S := by unfold undS; rw [e0, e1, e2]
    refine ⟨?_, ?_, ?_⟩
    · unfold entB at *; rw [e0, e1]; exact h1
    · rw [hu]; exact st_cs hm h2 (hc h (by omega))
    · rw [hu]; exact ih _ (fun i hi => hz i (by omega)) (fun i hi => hc i (by omega)) h3
theorem cpy1 {f : Nat → Int32} {j : Nat} (h : j < 19) : va_cpy f f 1 0 19 j = f (j + 1) := by
  unfold va_cpy; rw [if_pos ⟨by omega, by omega⟩]; congr 1; omega
theorem cs_si {c : Nat} (v : VV) (k : Nat) (x : Int32) : carS c c v (si v k x) := cs_refl c v
theorem addZ (Z : VV) (h : Nat) (hh : h < 20) (hz : Z.1 3 = nI h) (kd wh fo : Int32) : ∃ Z', f_X2_add_b60 Z kd wh fo = some Z' ∧ Z'.1 3 = nI (h + 1) ∧ (Z'.2.1 0 h = kd ∧ Z'.2.1 1 h = wh ∧ Z'.2.1 2 h = fo) ∧ ∀ i, i < h → Z'.2.1 0 i = Z.2.1 0 i ∧ Z'.2.1 1 i = Z.2.1 1 i ∧ Z'.2.1 2 i = Z.2.1 2 i := by
  unfold f_X2_add_b60
  rw [hz, pu_gin (show h < 20 by omega) (show 20 < 2 ^ 31 by omega), nI_clamp (show h < 2 ^ 31 by omega), pu_gin (show h < 20 by omega) (show 20 < 2 ^ 31 by omega), pu_gin (show h < 20 by omega) (show 20 < 2 ^ 31 by omega), nI_1]
  refine ⟨_, rfl, rfl, ⟨?_, ?_, ?_⟩, fun i hi => ⟨?_, ?_, ?_⟩⟩
  · exact pk_us
  · exact pk_us
  · exact pk_us
  · exact pk_un (by omega)
  · exact pk_un (by omega)
  · exact pk_un (by omega)
theorem keep_b (N : Nat) (hN : 66 < N) {v : VV} {h : Nat} (hh : h < 20) (h49 : v.1 49 = nI h) : ∃ w, f_X12_keepNow_b45 N v = some w ∧ w.1 49 = nI (h + 1) ∧ carS 0 (3 + h) v w ∧ (∀ c, c ≠ 3 + h → carS c c v w) ∧ KW v w := by
  unfold f_X12_keepNow_b45
  have e : (3 : Int32) + nI h = nI (3 + h) := nI_add 3 h
  obtain ⟨w, g1, g2⟩ := copiesR (a := 3 + h) (b := 0) N hN v (by omega) (by omega) (by omega)
  have hF := cp_FR g2
  rw [h49, e, show (0 : Int32) = nI 0 from rfl, g1, pu_bnd]
  refine ⟨_, rfl, ?_, cs_tr (cs_cp g2) (cs_si w 49 _), fun c hc => cs_tr (cs_FR hF hc) (cs_si w 49 _), (KW_FR (by omega) hF).trans (KW_49 _ _)⟩
  show w.1 49 + 1 = _
  rw [g2.1, h49, nI_1]
theorem keepNowR (N : Nat) (hN : 66 < N) {n m : Nat} {Z S v : VV} (hm : m ≤ 3) (hS : stR n m 0 S v) (hH : ∃ h : Nat, h ≤ 20 ∧ Z.1 3 = nI h ∧ v.1 49 = nI h ∧ hsR n m Z v h S) (kd wh fo : Int32) :
    ∃ (h : Nat) (Z' w : VV), h < 20 ∧ f_X2_add Z kd wh fo = some Z' ∧ f_X12_keepNow N v = some w ∧ (Z'.1 3 = nI (h + 1) ∧ w.1 49 = nI (h + 1)) ∧ (Z'.2.1 0 h = kd ∧ Z'.2.1 1 h = wh ∧ Z'.2.1 2 h = fo) ∧ stR n m (3 + h) S w ∧ hsR n m Z' w h S ∧ KW v w ∧ carS 0 0 v w := by
  obtain ⟨h, h1, h2, h3, h4⟩ := hH
  rcases Nat.lt_or_ge h 20 with hlt | hge
  · obtain ⟨Z', a1, a2, a3, a4⟩ := addZ Z h hlt h2 kd wh fo
    obtain ⟨w, b1, b2, b3, b4, b5⟩ := keep_b N hN hlt h3
    refine ⟨h, Z', w, hlt, ?_, ?_, ⟨a2, b2⟩, a3, st_cs hm hS b3, hs_tr hm h S a4 (fun i hi => b4 (3 + i) (by omega)) h4, b5, b4 0 (by omega)⟩
    · unfold f_X2_add; rw [h2, if_pos (show nI (h) < (20 : Int32) from nI_lt (a := h) (b := 20) (by omega) (by omega))]; exact a1
    · unfold f_X12_keepNow; rw [h3, if_neg (show ¬ nI (h) = (20 : Int32) from fun hq9 => absurd ((nI_eq (a := h) (b := 20) (by omega) (by omega)).mp hq9) (by omega))]; exact b1
  · have : h = 20 := by omega
    subst this
    obtain ⟨Z', a1, a2, a3, a4⟩ := addZ (si (sw (sw (sw Z 0 (va_cpy (Z.2.1 0) (Z.2.1 0) 1 0 19)) 1 (va_cpy (Z.2.1 1) (Z.2.1 1) 1 0 19)) 2 (va_cpy (Z.2.1 2) (Z.2.1 2) 1 0 19)) 3 19) 19 (by omega) rfl kd wh fo
    obtain ⟨r, c1, c2⟩ := itr1 (A := fun q : Int32 × VV => f_X12_keepNow_s11 N q.2 q.1) (fun k (s : Int32 × VV) => ∃ i, k = 20 - i ∧ 1 ≤ i ∧ i ≤ 20 ∧ s.1 = nI i ∧ s.2.1 = v.1 ∧ KW v s.2 ∧ carS 0 0 v s.2 ∧ (∀ j, j + 1 < i → carS (3 + (j + 1)) (3 + j) v s.2) ∧ (∀ j, i ≤ j → carS (3 + j) (3 + j) v s.2)) (fun w => w.1 49 = nI 20 ∧ stR n m 22 S w ∧ KW v w ∧ carS 0 0 v w ∧ ∀ j, j < 19 → carS (3 + (j + 1)) (3 + j) v w) (by
      intro k s hR
      obtain ⟨s1, w⟩ := s
      obtain ⟨i, hk, hi1, hi, f1, f2, f3, f4, f5, f6⟩ := hR
      simp only at f1 f2 f3 f4 f5 f6
      subst f1
      simp only
      unfold f_X12_keepNow_s11
      rcases Nat.lt_or_ge i 20 with hlt | hge
      · left
        obtain ⟨j, rfl⟩ : ∃ j, i = j + 1 := ⟨i - 1, by omega⟩
        have e : (3 : Int32) + nI (j + 1) = nI (3 + j + 1) := nI_add 3 (j + 1)
        obtain ⟨w', g1, g2⟩ := copiesR (a := 3 + j) (b := 3 + j + 1) N hN w (by omega) (by omega) (by omega)
        have hF := cp_FR g2
        rw [if_neg (show ¬ (20 : Int32) ≤ nI (j + 1) from nI_ge (a := j + 1) (b := 20) (by omega) (by omega)), e, nI_pred, g1, pu_bnd, nI_1]
        refine ⟨20 - (j + 1 + 1), _, by omega, rfl, j + 1 + 1, rfl, by omega, by omega, rfl, g2.1.trans f2, f3.trans (KW_FR (by omega) hF), cs_tr f4 (cs_FR hF (by omega)), fun q hq => ?_, fun q hq => cs_tr (f6 q (by omega)) (cs_FR hF (by omega))⟩
        by_cases eq : q = j
        · subst eq
          exact cs_tr (f6 (q + 1) (by omega)) (cs_cp g2)
        · exact cs_tr (f5 q (by omega)) (cs_FR hF (by omega))
      · right
        have : i = 20 := by omega
        subst this
        rw [if_pos (show (20 : Int32) ≤ nI 20 from by decide)]
        have h49 : (si w 49 (w.1 49 - 1)).1 49 = nI 19 := by
          show w.1 49 - 1 = nI 19
          rw [f2, h3]; decide
        obtain ⟨w', b1, b2, b3, b4, b5⟩ := keep_b N hN (by omega) h49
        rw [b1, pu_inrO]
        exact ⟨w', rfl, b2, st_cs hm hS (cs_tr f4 b3), f3.trans ((KW_49 w _).trans b5), cs_tr f4 (b4 0 (by omega)), fun j hj => cs_tr (f5 j (by omega)) (b4 (3 + j) (by omega))⟩) N 19 (1, v) (by omega) ⟨1, by omega, by omega, by omega, rfl, rfl, KW.refl v, cs_refl 0 v, fun j hj => by omega, fun j _ => cs_refl _ v⟩
    obtain ⟨q1, q2, q3, q4, q5⟩ := c2
    refine ⟨19, Z', r, by omega, ?_, ?_, ⟨a2, q1⟩, a3, q2, hs_sh hm 19 S (fun i hi => ?_) q5 h4, q3, q4⟩
    · unfold f_X2_add; rw [h2, if_neg (show ¬ nI 20 < 20 from by decide)]; exact a1
    · unfold f_X12_keepNow; rw [h3, if_pos (show nI 20 = 20 from rfl)]; exact c1
    · obtain ⟨e0, e1, e2⟩ := a4 i hi
      exact ⟨e0.trans (cpy1 hi), e1.trans (cpy1 hi), e2.trans (cpy1 hi)⟩
theorem sr_sr (S : VV) (k p : Nat) (x : Int32) : sr (sr S k p x) k p (S.2.1 k p) = S := by
  refine Prod.ext rfl (Prod.ext ?_ rfl)
  funext q
  show (if q = k then upd (if k = k then upd (S.2.1 k) p x else S.2.1 k) p (S.2.1 k p) else if q = k then upd (S.2.1 k) p x else S.2.1 q) = S.2.1 q
  by_cases e : q = k
  · subst e
    rw [if_pos rfl, if_pos rfl]
    funext j
    by_cases ej : j = p
    · subst ej; rw [pk_us]
    · rw [pk_un ej, pk_un ej]
  · rw [if_neg e, if_neg e]
theorem FR0_8 {v : VV} (k p : Nat) (x : Int32) (hk : 37 ≤ k) (hk' : k ≤ 41) (hp : p < 8) : FR 0 v (sr v k p x) := by
  have := FR_8 (c := 0) (v := v) k p x hk hk' hp
  rw [show 8 * 0 + p = p by omega] at this; exact this
theorem FR0_3 {v : VV} (k p : Nat) (x : Int32) (hk : 42 ≤ k) (hk' : k ≤ 47) (hp : p < 3) : FR 0 v (sr v k p x) := by
  have := FR_3 (c := 0) (v := v) k p x hk hk' hp
  rw [show 3 * 0 + p = p by omega] at this; exact this
theorem st_tk {n m p : Nat} {S v : VV} {x : Int32} (h : stR n m 0 S v) (hx : x = -1 ∨ ∃ u : Nat, u < m ∧ x = nI u) : stR n m 0 (sr S 2 p x) (sr v 37 p x) := by
  obtain ⟨⟨d, a2, a3, a4, a5, a6, a7, a8⟩, hs, o1, o2, o3, o4⟩ := h
  refine ⟨⟨d, RE_upd a2 (by omega) rfl, a3, a4, a5, a6, a7, a8⟩, hs, o1, fun q hq => ?_, o3, o4⟩
  show upd (S.2.1 2) p x q = -1 ∨ ∃ u : Nat, u < m ∧ upd (S.2.1 2) p x q = nI u
  by_cases e : q = p
  · subst e; rw [pk_us]; exact hx
  · rw [pk_un e]; exact o2 q hq
theorem st_sg {n m p s : Nat} {S v : VV} (h : stR n m 0 S v) (hs' : s ≤ 3) : stR n m 0 (sr S 3 p (nI s)) (sr v 42 p (nI s)) := by
  obtain ⟨⟨d, a2, a3, a4, a5, a6, a7, a8⟩, hs, o1, o2, o3, o4⟩ := h
  refine ⟨⟨d, a2, a3, a4, a5, a6, RE_upd a7 (by omega) rfl, a8⟩, hs, fun q hq => ?_, o2, o3, o4⟩
  show ∃ s' : Nat, s' ≤ 3 ∧ upd (S.2.1 3) p (nI s) q = nI s'
  by_cases e : q = p
  · subst e; rw [pk_us]; exact ⟨s, hs', rfl⟩
  · rw [pk_un e]; exact o1 q hq
theorem st_pr {n m p : Nat} {S v : VV} {x : Int32} (h : stR n m 0 S v) : stR n m 0 (sr S 4 p x) (sr v 43 p x) := by
  obtain ⟨⟨d, a2, a3, a4, a5, a6, a7, a8⟩, hs, o1, o2, o3, o4⟩ := h
  exact ⟨⟨d, a2, a3, a4, a5, a6, a7, RE_upd a8 (by omega) rfl⟩, hs, o1, o2, o3, o4⟩
/-- one change, and what it may be undone by -/
theorem change1 {n m h : Nat} {X : VV} {T : Nat → Int32} {R P L S Im Wa Wb Z U D E v Z' w S' w' : VV} (h0 : INV0 n m X T R P L S Im Wa Wb Z U D E v) (hh : h < 20) (h3 : Z'.1 3 = nI (h + 1) ∧ w.1 49 = nI (h + 1)) (hS : stR n m (3 + h) S w) (hs : hsR n m Z' w h S) (hw : KW v w) (hF : FR 0 w w') (he : entB Z' h) (hu : undS Z' h S' = S) (hS' : stR n m 0 S' w') : INV0 n m X T R P L S' Im Wa Wb Z' U D E w' := by
  have hm := PR_m h0.1
  refine inv_S h0 (LF.refl _) (hw.trans (KW_FR (by omega) hF)) hS' ⟨h + 1, by omega, h3.1, (hF.1 49 (by omega) (by omega) (by omega) (by omega)).trans h3.2, he, ?_, ?_⟩
  · rw [hu]; exact st_cs hm hS (cs_FR hF (by omega))
  · rw [hu]; exact hs_tr hm h S (fun i _ => ⟨rfl, rfl, rfl⟩) (fun i _ => cs_FR hF (by omega)) hs
theorem st_give (N : Nat) (hN : 66 < N) : ST_give N INV := by
  intro cv T B v a1 a2 hI
  obtain ⟨n, m, h⟩ := hI
  have h' := inv_kv h (LF.refl _) (KV_0 v)
  obtain ⟨hP, hS, hT, hIm, hWa, hWb, hRf, hH, hU, hRd, hG, hE⟩ := id h'
  have hn := PR_n hP
  have hm := PR_m hP
  unfold f_X11_give f_X12_give
  rcases hasP hP a1 with ⟨p, hp, rfl, e1, e2⟩ | ⟨e1, e2⟩
  · have etk : (si v 0 0).2.1 37 p = (cv 8).2.1 2 p := RE_eq hS.1.2.1 (by omega) (by omega)
    have key : (a2 = -1 ∨ ∃ u : Nat, u < m ∧ a2 = nI u) → ∃ (r : Int32) (n0 n1 v1 : VV), f_X11_give_b29 N (cv 0) (cv 6) (cv 8) (cv 15) (nI p) a2 = some (r, n0, n1) ∧ f_X12_give_b26 N (si v 0 0) (nI p) a2 = some (r, v1) ∧ INV (uc (uc cv 8 n0) 15 n1) T B v1 := by
      intro ha
      have key2 : ∃ (r : Int32) (n0 n1 v1 : VV), f_X11_give_b85 N (cv 0) (cv 6) (cv 8) (cv 15) (nI p) a2 ((cv 8).2.1 2 p) = some (r, n0, n1) ∧ f_X12_give_b74 N (si v 0 0) (nI p) a2 = some (r, v1) ∧ INV (uc (uc cv 8 n0) 15 n1) T B v1 := by
        obtain ⟨h, Z', w, k1, k2, k3, k4, k5, k6, k7, k8, k9⟩ := keepNowR N hN hm hS hH 0 (nI p) ((cv 8).2.1 2 p)
        unfold f_X11_give_b85 f_X12_give_b74
        rw [k2, k3, pu_bnd, pu_bnd, pu_gin (show p < 8 by omega) (show 8 < 2 ^ 31 by omega), pu_gin (show p < 184 by omega) (show 184 < 2 ^ 31 by omega), nI_clamp (show p < 2 ^ 31 by omega)]
        refine ⟨_, _, _, _, rfl, rfl, n, m, change1 h' k1 k4 k6 k7 k8 (FR0_8 37 p a2 (by omega) (by omega) (by omega)) (Or.inl ⟨k5.1, p, by omega, k5.2.1⟩) ?_ (st_tk (st_cs hm hS k9) ha)⟩
        show undS Z' h (sr (cv 8) 2 p a2) = cv 8
        unfold undS
        rw [if_pos k5.1, k5.2.1, k5.2.2, nI_clamp (show p < 2 ^ 31 by omega)]
        exact sr_sr _ 2 p a2
      unfold f_X11_give_b29 f_X12_give_b26
      rw [pu_gin (show p < 8 by omega) (show 8 < 2 ^ 31 by omega), pu_gin (show p < 184 by omega) (show 184 < 2 ^ 31 by omega), nI_clamp (show p < 2 ^ 31 by omega), etk]
      by_cases c1 : (cv 8).2.1 2 p = a2
      · simp only [if_pos c1]; exact ⟨_, _, _, _, rfl, rfl, n, m, h'⟩
      · simp only [if_neg c1]
        by_cases c2 : a2 = -1
        · simp only [if_pos c2]; exact key2
        · simp only [if_neg c2, pers_S N hN hP a2, with_S N hN hP hS.1 a2, pu_bnd, tra0 hP hp, pu_gin (show p < 16 by omega) (show 16 < 2 ^ 31 by omega), show f_X6_mostTickets (cv 6) = some ((si v 0 0).2.1 3 1 + (si v 0 0).2.1 3 6) from by unfold f_X6_mostTickets; rw [(PR_sE hP).1, (PR_sE hP).2.2.2.2.1]]
          by_cases c3 : sm_ (fun q => if (cv 8).2.1 2 q = a2 then (si v 0 0).2.1 5 q else 0) n + (si v 0 0).2.1 5 p ≤ (si v 0 0).2.1 3 1 + (si v 0 0).2.1 3 6
          · simp only [if_pos c3]; exact key2
          · simp only [if_neg c3]; exact ⟨_, _, _, _, rfl, rfl, n, m, h'⟩
    simp only [e1, e2, pu_bnd, n10, ↓reduceIte]
    by_cases c : a2 = -1
    · simp only [if_pos c]; exact key (Or.inl c)
    · simp only [if_neg c]
      rcases hasS hP a2 with ⟨t, ht, ea, f1, f2⟩ | ⟨f1, f2⟩
      · simp only [f1, f2, pu_bnd, n10, ↓reduceIte]; exact key (Or.inr ⟨t, ht, ea⟩)
      · simp only [f1, f2, pu_bnd, ↓reduceIte]; exact ⟨_, _, _, _, rfl, rfl, n, m, h'⟩
  · simp only [e1, e2, pu_bnd, ↓reduceIte]; exact ⟨_, _, _, _, rfl, rfl, n, m, h'⟩
theorem st_sign (N : Nat) (hN : 66 < N) : ST_sign N INV := by
  intro cv T B v a1 a2 hI
  obtain ⟨n, m, h⟩ := hI
  have h' := inv_kv h (LF.refl _) (KV_0 v)
  obtain ⟨hP, hS, hT, hIm, hWa, hWb, hRf, hH, hU, hRd, hG, hE⟩ := id h'
  have hm := PR_m hP
  unfold f_X11_sign f_X12_sign_
  rcases hasS hP a1 with ⟨t, ht, rfl, e1, e2⟩ | ⟨e1, e2⟩
  · have etk : v.2.1 42 t = (cv 8).2.1 3 t := RE_eq hS.1.2.2.2.2.2.2.1 (by omega) (by omega)
    simp only [e1, e2, pu_bnd, n10, ↓reduceIte, pu_gin (show t < 3 by omega) (show 3 < 2 ^ 31 by omega), pu_gin (show t < 69 by omega) (show 69 < 2 ^ 31 by omega), nI_clamp (show t < 2 ^ 31 by omega), etk]
    by_cases c1 : a2 < 0
    · simp only [if_pos c1]; exact ⟨_, _, _, _, rfl, rfl, n, m, h'⟩
    by_cases c2 : (3 : Int32) < a2
    · simp only [if_neg c1, if_pos c2]; exact ⟨_, _, _, _, rfl, rfl, n, m, h'⟩
    simp only [if_neg c1, if_neg c2]
    by_cases c3 : (cv 8).2.1 3 t = a2
    · simp only [if_pos c3]; exact ⟨_, _, _, _, rfl, rfl, n, m, h'⟩
    simp only [if_neg c3]
    obtain ⟨s, hs, rfl⟩ := nI_of2 (M := 3) (n := 3) (by decide) c1 (by rw [Int32.not_lt] at c2; exact c2)
    obtain ⟨h, Z', w, k1, k2, k3, k4, k5, k6, k7, k8, k9⟩ := keepNowR N hN hm hS hH 1 (nI t) ((cv 8).2.1 3 t)
    rw [k2, k3, pu_bnd, pu_bnd]
    refine ⟨_, _, _, _, rfl, rfl, n, m, change1 h' k1 k4 k6 k7 k8 (FR0_3 42 t (nI s) (by omega) (by omega) (by omega)) (Or.inr (Or.inl ⟨k5.1, t, by omega, k5.2.1⟩)) ?_ (st_sg (st_cs hm hS k9) hs)⟩
    show undS Z' h (sr (cv 8) 3 t (nI s)) = cv 8
    unfold undS
    rw [if_neg (by rw [k5.1]; decide), if_pos k5.1, k5.2.1, k5.2.2, nI_clamp (show t < 2 ^ 31 by omega)]
    exact sr_sr _ 3 t _
  · simp only [e1, e2, pu_bnd, ↓reduceIte]; exact ⟨_, _, _, _, rfl, rfl, n, m, h'⟩
theorem st_price (N : Nat) (hN : 66 < N) : ST_price N INV := by
  intro cv T B v a1 a2 hI
  obtain ⟨n, m, h⟩ := hI
  have h' := inv_kv h (LF.refl _) (KV_0 v)
  obtain ⟨hP, hS, hT, hIm, hWa, hWb, hRf, hH, hU, hRd, hG, hE⟩ := id h'
  have hm := PR_m hP
  unfold f_X11_price f_X12_price
  rcases hasS hP a1 with ⟨t, ht, rfl, e1, e2⟩ | ⟨e1, e2⟩
  · have etk : v.2.1 43 t = (cv 8).2.1 4 t := RE_eq hS.1.2.2.2.2.2.2.2 (by omega) (by omega)
    simp only [e1, e2, pu_bnd, n10, ↓reduceIte, pu_gin (show t < 3 by omega) (show 3 < 2 ^ 31 by omega), pu_gin (show t < 69 by omega) (show 69 < 2 ^ 31 by omega), nI_clamp (show t < 2 ^ 31 by omega), etk]
    by_cases c1 : a2 < 0
    · simp only [if_pos c1]; exact ⟨_, _, _, _, rfl, rfl, n, m, h'⟩
    by_cases c2 : (99 : Int32) < a2
    · simp only [if_neg c1, if_pos c2]; exact ⟨_, _, _, _, rfl, rfl, n, m, h'⟩
    simp only [if_neg c1, if_neg c2]
    by_cases c3 : (cv 8).2.1 4 t = a2
    · simp only [if_pos c3]; exact ⟨_, _, _, _, rfl, rfl, n, m, h'⟩
    simp only [if_neg c3]
    obtain ⟨h, Z', w, k1, k2, k3, k4, k5, k6, k7, k8, k9⟩ := keepNowR N hN hm hS hH 2 (nI t) ((cv 8).2.1 4 t)
    rw [k2, k3, pu_bnd, pu_bnd]
    refine ⟨_, _, _, _, rfl, rfl, n, m, change1 h' k1 k4 k6 k7 k8 (FR0_3 43 t a2 (by omega) (by omega) (by omega)) (Or.inr (Or.inr ⟨k5.1, t, by omega, k5.2.1⟩)) ?_ (st_pr (st_cs hm hS k9))⟩
    show undS Z' h (sr (cv 8) 4 t a2) = cv 8
    unfold undS
    rw [if_neg (by rw [k5.1]; decide), if_neg (by rw [k5.1]; decide), k5.2.1, k5.2.2, nI_clamp (show t < 2 ^ 31 by omega)]
    exact sr_sr _ 4 t _
  · simp only [e1, e2, pu_bnd, ↓reduceIte]; exact ⟨_, _, _, _, rfl, rfl, n, m, h'⟩
theorem takeR {Z S : VV} {h : Nat} (hh : h < 20) (h3 : Z.1 3 = nI (h + 1)) (he : entB Z h) : f_X2_takeBack Z S = some (si Z 3 (nI h), undS Z h S) := by
  unfold f_X2_takeBack undS
  simp only [h3, if_pos (show (1 : Int32) ≤ nI (h + 1) from nI_le (a := 1) (b := h + 1) (by omega) (by omega)), nI_pred, pu_gin (show h < 20 by omega) (show 20 < 2 ^ 31 by omega), nI_clamp (show h < 2 ^ 31 by omega)]
  rcases he with ⟨e0, p, hp, e1⟩ | ⟨e0, p, hp, e1⟩ | ⟨e0, p, hp, e1⟩
  · simp only [if_pos e0, e1, if_neg (nI_pos (show p < 2 ^ 31 by omega)), if_neg (show ¬ (8 : Int32) ≤ nI (p) from nI_ge (a := p) (b := 8) (by omega) (by omega)), pu_gin (show p < 8 by omega) (show 8 < 2 ^ 31 by omega)]
  · simp only [if_neg (show ¬ Z.2.1 0 h = 0 by rw [e0]; decide), if_pos e0, e1, if_neg (nI_pos (show p < 2 ^ 31 by omega)), if_neg (show ¬ (3 : Int32) ≤ nI (p) from nI_ge (a := p) (b := 3) (by omega) (by omega)), pu_gin (show p < 3 by omega) (show 3 < 2 ^ 31 by omega)]
  · simp only [if_neg (show ¬ Z.2.1 0 h = 0 by rw [e0]; decide), if_neg (show ¬ Z.2.1 0 h = 1 by rw [e0]; decide), e1, if_neg (nI_pos (show p < 2 ^ 31 by omega)), if_neg (show ¬ (3 : Int32) ≤ nI (p) from nI_ge (a := p) (b := 3) (by omega) (by omega)), pu_gin (show p < 3 by omega) (show 3 < 2 ^ 31 by omega)]
theorem st_undo (N : Nat) (hN : 66 < N) : ST_undo N INV := by
  intro cv T B v hI
  obtain ⟨n, m, h⟩ := hI
  have h' := inv_kv h (LF.refl _) (KV_0 v)
  obtain ⟨hP, hS, hT, hIm, hWa, hWb, hRf, hH, hU, hRd, hG, hE⟩ := id h'
  have hm := PR_m hP
  obtain ⟨k, k1, k2, k3, k4⟩ := hH
  unfold f_X11_undo f_X12_undo
  have k3' : v.1 49 = nI k := k3
  rw [k2, k3']
  rcases Nat.eq_zero_or_pos k with hz | hp
  · subst hz
    rw [if_neg (show ¬ (1 : Int32) ≤ nI 0 from by decide), if_pos (show nI 0 = 0 from rfl)]
    exact ⟨_, _, _, _, rfl, rfl, n, m, h'⟩
  · obtain ⟨j, rfl⟩ : ∃ j, k = j + 1 := ⟨k - 1, by omega⟩
    obtain ⟨s1, s2, s3⟩ := k4
    have e : (3 : Int32) + nI j = nI (3 + j) := nI_add 3 j
    obtain ⟨w, g1, g2⟩ := copiesR (a := 0) (b := 3 + j) N hN (si (si v 0 0) 49 (nI j)) (by omega) (by omega) (by omega)
    have hF := cp_FR g2
    have g1' : f_X12_copies N (si (si v 0 0) 49 (nI j)) 0 (nI (3 + j)) = some w := g1
    rw [if_pos (show (1 : Int32) ≤ nI (j + 1) from nI_le (a := 1) (b := j + 1) (by omega) (by omega)), if_neg (show ¬ nI (j + 1) = (0 : Int32) from fun hq9 => absurd ((nI_eq (a := j + 1) (b := 0) (by omega) (by omega)).mp hq9) (by omega)), takeR (by omega) k2 s1, pu_bnd, nI_pred, e, g1', pu_bnd]
    have e49 : w.1 49 = nI j := by rw [g2.1]; rfl
    rw [e49]
    refine ⟨_, _, _, _, rfl, rfl, n, m, inv_S h' (LF.refl _) ((KW_49 _ _).trans (KW_FR (by omega) hF)) (st_cs hm (st_cs hm s2 (cs_si _ 49 _)) (cs_cp g2)) ⟨j, by omega, rfl, e49, ?_⟩⟩
    show hsR n m (si (cv 15) 3 (nI j)) w j (undS (cv 15) j (cv 8))
    exact hs_tr (Z := cv 15) hm j _ (fun i _ => ⟨rfl, rfl, rfl⟩) (fun i _ => cs_tr (cs_si _ 49 _) (cs_FR hF (by omega))) s3
theorem st_keep (N : Nat) (hN : 66 < N) : ST_keep N INV := by
  intro cv T B v hI
  obtain ⟨n, m, h⟩ := hI
  have h' := inv_kv h (LF.refl _) (KV_0 v)
  obtain ⟨hP, hS, hT, hIm, hWa, hWb, hRf, hH, hU, hRd, hG, hE⟩ := id h'
  have hm := PR_m hP
  unfold f_X11_keep f_X12_keep
  obtain ⟨Im', c1, c2⟩ := copyR (cv 9) (seen01 hS.2.1)
  obtain ⟨w, g1, g2⟩ := copiesR (a := 2) (b := 0) N hN (si v 0 0) (by omega) (by omega) (by omega)
  have g1' : f_X12_copies N (si v 0 0) 2 0 = some w := g1
  have hF := cp_FR g2
  rw [c1, g1', pu_bnd, pu_bnd]
  have hS1 : stR n m 0 (cv 8) w := st_cs hm hS (cs_FR hF (by omega))
  refine ⟨_, _, _, _, rfl, by rw [← hS1.1.1.1], n, m, ?_⟩
  refine ⟨PR_tr hP (fun k hk => hF.2.1 k (by omega)) rfl (fun _ _ => rfl), st_cs hm hS1 (cs_si _ 48 _), ?_, ?_, hWa, hWb, ?_, ?_, ?_, ?_, hG, hE⟩
  · obtain ⟨k, t1, t2, t3, t4⟩ := hT
    refine ⟨k, t1, t2, ?_, ?_⟩
    · show w.1 2 = _; rw [g2.1]; exact t3
    · show ∀ i, i < k → bytR (T i) (w.2.1 1 i); rw [hF.2.1 1 (by omega)]; exact t4
  · exact Or.inr ⟨rfl, rfl, st_cs hm (st_cs hm (st_same hm hS c2) (cs_cp g2)) (cs_si _ 48 _)⟩
  · obtain ⟨⟨r1, r2, r3, r4⟩, r5⟩ := hRf
    refine ⟨⟨?_, ?_, ?_, ?_⟩, ?_⟩
    · show w.1 50 = _; rw [g2.1]; exact r1
    · show w.1 51 = _; rw [g2.1]; exact r2
    · show w.1 52 = _; rw [g2.1]; exact r3
    · show w.1 53 = _; rw [g2.1]; exact r4
    · show ∀ u, u < 3 → w.2.1 54 u = 0; rw [hF.2.1 54 (by omega)]; exact r5
  · obtain ⟨h, h1, h2, h3, h4⟩ := hH
    refine ⟨h, h1, h2, ?_, hs_tr hm h _ (fun i _ => ⟨rfl, rfl, rfl⟩) (fun i _ => cs_tr (cs_FR hF (by omega)) (cs_si _ 48 _)) h4⟩
    show w.1 49 = _; rw [g2.1]; exact h3
  · have e1 : (si w 48 1).1 64 = (si v 0 0).1 64 := by show w.1 64 = _; rw [g2.1]
    have e2 : (si w 48 1).1 65 = (si v 0 0).1 65 := by show w.1 65 = _; rw [g2.1]
    have e3 : ∀ k, 47 < k → (si w 48 1).2.1 k = (si v 0 0).2.1 k := fun k hk => hF.2.1 k (by omega)
    show ntR m (cv 16) (si w 48 1)
    unfold ntR at *
    rw [e1, e2, e3 66 (by omega), e3 67 (by omega), e3 68 (by omega), e3 69 (by omega)]; exact hU
  · have e1 : (si w 48 1).1 25 = (si v 0 0).1 25 := by show w.1 25 = _; rw [g2.1]
    have e2 : (si w 48 1).1 26 = (si v 0 0).1 26 := by show w.1 26 = _; rw [g2.1]
    show rdR (cv 2) (si w 48 1)
    unfold rdR at *
    rw [e1, e2]; exact hRd
theorem st_back (N : Nat) (hN : 66 < N) : ST_back N INV := by
  intro cv T B v hI
  obtain ⟨n, m, h⟩ := hI
  have h' := inv_kv h (LF.refl _) (KV_0 v)
  obtain ⟨hP, hS, hT, hIm, hWa, hWb, hRf, hH, hU, hRd, hG, hE⟩ := id h'
  have hm := PR_m hP
  unfold f_X11_back f_X12_back
  rcases hIm with ⟨i1, i2⟩ | ⟨i1, i2, i3⟩
  · have i2' : v.1 48 = 0 := i2
    rw [if_pos i1, if_pos i2']; exact ⟨_, _, _, _, rfl, rfl, n, m, h'⟩
  · have i2' : v.1 48 = 1 := i2
    obtain ⟨S', c1, c2⟩ := copyR (cv 8) (seen01 i3.2.1)
    obtain ⟨w, g1, g2⟩ := copiesR (a := 0) (b := 2) N hN (si v 0 0) (by omega) (by omega) (by omega)
    have g1' : f_X12_copies N (si v 0 0) 0 2 = some w := g1
    have hF := cp_FR g2
    have hS1 : stR n m 0 S' w := st_cs hm (st_same hm i3 c2) (cs_cp g2)
    rw [if_neg (show ¬ (cv 0).1 6 = 0 by rw [i1]; decide), if_neg (show ¬ v.1 48 = 0 by rw [i2']; decide), c1, g1', pu_bnd, pu_bnd]
    exact ⟨S'.1 0, S', si (cv 15) 3 0, si w 49 0, rfl, by rw [← hS1.1.1.1], n, m, inv_S h' (LF.refl _) ((KW_FR (by omega) hF).trans (KW_49 _ _)) (st_cs hm hS1 (cs_si _ 49 _)) ⟨0, by omega, rfl, rfl, trivial⟩⟩
theorem day0 (N : Nat) (hN : 66 < N) {n m : Nat} {P L Y v S : VV} (C : VV) (hP : PR n m P L v) (hW : wayR n P Y v 1) (h50 : v.1 50 = 0) (h54 : ∀ u, u < 3 → v.2.1 54 u = 0) (hS : stR n m 0 S v) {d : Nat} (hd : S.1 0 = nI d) (hd9 : d + 1 ≤ 9999) :
    ∃ C' L' S' w, f_X0_goThrough N C P L S Y = some (C', L', S') ∧ f_X12_passes N v 0 1 = some w ∧ FR 0 v w ∧ LF L L' ∧ stR n m 0 S' w ∧ S'.1 0 = nI (d + 1) := by
  have hm := PR_m hP
  obtain ⟨C', L', S', w, h1, h2, h3, h4, h5, ⟨k1, k2, k3, k4, k5, k6⟩, h7⟩ := day_goes (c := 0) (aw := True) (C := C) N hN hP hW (by omega) hS.2.2.1 (fun e => absurd e (by rw [h50]; decide)) hS.1
  have ed : S'.1 0 = nI (d + 1) := by rw [k5, hd, nI_1]
  refine ⟨C', L', S', w, h1, h2, h3, h4, ⟨h5, Or.inr ⟨k6, fun u hu => ?_⟩, ?_, ?_, ?_, ⟨d + 1, hd9, ed⟩⟩, ed⟩
  · obtain ⟨⟨a1, a2, a3⟩, a4, a5, a6, a7⟩ := h7 u hu
    have z : w.2.1 54 u = 0 := by rw [h3.2.1 54 (by omega)]; exact h54 u (by omega)
    exact ⟨a2 z, a1, by rw [a4, z, Int32.sub_zero], a5, a6, a7⟩
  · rw [k2]; exact hS.2.2.1
  · rw [k1]; exact hS.2.2.2.1
  · intro p hp hp8; rw [k4 p hp]; exact hS.2.2.2.2.1 p hp hp8
theorem st_days (N : Nat) (hN : 100 < N) : ST_days N INV := by
  intro cv T B v a1 hI
  obtain ⟨n, m, h⟩ := hI
  have h' := inv_kv h (LF.refl _) (KV_0 v)
  obtain ⟨hP, hS, hT, hIm, hWa, hWb, hRf, hH, hU, hRd, hG, hE⟩ := id h'
  have hm := PR_m hP
  unfold f_X11_days f_X12_days
  by_cases c1 : a1 < 0
  · simp only [if_pos c1]; exact ⟨_, _, _, _, _, _, rfl, rfl, n, m, h'⟩
  by_cases c2 : (99 : Int32) < a1
  · simp only [if_neg c1, if_pos c2]; exact ⟨_, _, _, _, _, _, rfl, rfl, n, m, h'⟩
  simp only [if_neg c1, if_neg c2]
  have ed : (cv 8).1 0 = v.2.1 32 0 := hS.1.1.1
  rw [← ed]
  by_cases c3 : (cv 8).1 0 + a1 ≤ 9999
  · simp only [if_pos c3]
    obtain ⟨d, hd, rfl⟩ := nI_of2 (M := 99) (n := 99) (by decide) c1 (by rw [Int32.not_lt] at c2; exact c2)
    obtain ⟨d0, hd0, e0⟩ := hS.2.2.2.2.2
    have hsum : d0 + d ≤ 9999 := by
      rcases Nat.lt_or_ge 9999 (d0 + d) with hx | hx
      · rw [e0, nI_add] at c3
        exact absurd c3 (nI_ge (a := 9999) (b := d0 + d) hx (by omega))
      · exact hx
    rcases Nat.eq_zero_or_pos d with hz | hpos
    · subst hz
      rw [if_pos (show nI 0 ≤ 0 from by decide)]
      unfold f_X12_days_b40
      rw [itr_e (A := fun q : Int32 × VV × VV × VV × VV => f_X11_days_s29 N (cv 0) (cv 6) q.2.1 q.2.2.1 q.2.2.2.1 (cv 13) q.2.2.2.2 (nI 0) q.1) (r := ((cv 8).1 0, cv 7, cv 8, cv 11, cv 15)) (by omega) (by show f_X11_days_s29 N (cv 0) (cv 6) (cv 7) (cv 8) (cv 11) (cv 13) (cv 15) (nI 0) 0 = _; unfold f_X11_days_s29; rw [if_pos (show nI 0 ≤ 0 from by decide), pu_inrO]),
        itr_e (A := fun q : Int32 × VV => f_X12_days_s42 N q.2 (nI 0) q.1) (r := ((cv 8).1 0, si v 0 0)) (by omega) (by show f_X12_days_s42 N (si v 0 0) (nI 0) 0 = _; unfold f_X12_days_s42; rw [if_pos (show nI 0 ≤ 0 from by decide), pu_inrO, ed]; rfl)]
      exact ⟨_, _, _, _, _, _, rfl, rfl, n, m, h'⟩
    · rw [if_neg (nI_nle hpos (by omega))]
      unfold f_X12_days_b40
      obtain ⟨r, r', g1, g2, g3⟩ := itr2 (A := fun q : Int32 × VV × VV × VV × VV => f_X11_days_s29 N (cv 0) (cv 6) q.2.1 q.2.2.1 q.2.2.2.1 (cv 13) q.2.2.2.2 (nI d) q.1) (B := fun q : Int32 × VV => f_X12_days_s42 N q.2 (nI d) q.1) (fun k s s' => ∃ i, k = d - i ∧ i ≤ d ∧ s.1 = nI i ∧ s'.1 = nI i ∧ LF (cv 7) s.2.1 ∧ KW (si v 0 0) s'.2 ∧ stR n m 0 s.2.2.1 s'.2 ∧ s.2.2.1.1 0 = nI (d0 + i) ∧ s'.2.1 49 = 0 ∧ (0 < i → s.2.2.2.2.1 3 = 0)) (fun r r' => r.1 = r'.1 ∧ LF (cv 7) r.2.1 ∧ KW (si v 0 0) r'.2 ∧ stR n m 0 r.2.2.1 r'.2 ∧ r'.2.1 49 = 0 ∧ r.2.2.2.2.1 3 = 0) (by
        intro k s s' hR
        obtain ⟨s1, L, S, C, Z⟩ := s
        obtain ⟨s1', w⟩ := s'
        obtain ⟨i, hk, hi, f1, f2, f3, f4, f5, f6, f7, f8⟩ := hR
        simp only at f1 f2 f3 f4 f5 f6 f7 f8
        subst f1 f2
        simp only
        unfold f_X11_days_s29 f_X12_days_s42
        rcases Nat.lt_or_ge i d with hlt | hge
        · left
          have hP' : PR n m (cv 6) L w := PR_tr hP (fun k hk => f4.2.1 k (by omega)) (by rw [f3.1]) (fun k hk => f3.2 k (by omega))
          have hRf' : rfR w := by
            unfold rfR at *
            rw [f4.1 50 (by omega), f4.1 51 (by omega), f4.1 52 (by omega), f4.1 53 (by omega), f4.2.1 54 (by omega)]
            exact hRf
          obtain ⟨C', L', S', w', q1, q2, q3, q4, q5, q6⟩ := day0 N (by omega) C hP' (way_std hP' hWb hRf') hRf'.1.1 hRf'.2 f5 f6 (by omega)
          rw [if_neg (nI_ge hlt (show d < 2 ^ 31 by omega)), if_neg (nI_ge hlt (show d < 2 ^ 31 by omega)), q1, q2, pu_bnd, pu_bnd, nI_1]
          exact ⟨d - (i + 1), _, _, by omega, rfl, rfl, i + 1, rfl, hlt, rfl, rfl, f3.trans q4, f4.trans (KW_FR (by omega) q3), q5, by rw [q6]; rfl, (q3.1 49 (by omega) (by omega) (by omega) (by omega)).trans f7, fun _ => rfl⟩
        · right
          have : i = d := by omega
          subst this
          rw [if_pos (nI_le (Nat.le_refl i) (show i < 2 ^ 31 by omega)), if_pos (nI_le (Nat.le_refl i) (show i < 2 ^ 31 by omega)), pu_inrO, pu_inrO]
          exact ⟨_, _, rfl, rfl, f5.1.1.1, f3, f4, f5, f7, f8 hpos⟩) N d (0, cv 7, cv 8, cv 11, cv 15) (0, si (si v 0 0) 49 0) (by omega) ⟨0, by omega, by omega, rfl, rfl, LF.refl _, KW_49 _ _, st_cs hm hS (cs_si _ 49 _), e0, rfl, fun h => absurd h (by omega)⟩
      obtain ⟨r1, L', S', C', Z'⟩ := r
      obtain ⟨r2, w⟩ := r'
      simp only at g3
      obtain ⟨rfl, q1, q2, q3, q4, q5⟩ := g3
      exact ⟨_, _, _, _, _, _, g1, g2, n, m, inv_S h' q1 q2 q3 ⟨0, by omega, q5, q4, trivial⟩⟩
  · simp only [if_neg c3]; exact ⟨_, _, _, _, _, _, rfl, rfl, n, m, h'⟩
