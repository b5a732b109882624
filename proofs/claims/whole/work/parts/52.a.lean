/-! The plain calls. -/
theorem pers_S (N : Nat) (hN : 66 < N) {n m : Nat} {P L S v : VV} (h : PR n m P L v) (x : Int32) : f_X8_personsFor N S P x = some (sm_ (fun q => if S.2.1 2 q = x then v.2.1 5 q else 0) n) := by
  have hn := PR_n h
  unfold f_X8_personsFor
  refine itrF n (fun i => (sm_ (fun q => if S.2.1 2 q = x then v.2.1 5 q else 0) i, nI i)) _ ?_ ?_ N 0 (by omega) (by omega)
  · intro i hi
    show f_X8_personsFor_s5 N S P x _ (nI i) = _
    unfold f_X8_personsFor_s5 f_X8_personsFor_b35
    rw [PR_P0 h, if_neg (nI_ge hi (by omega)), pu_gin (show i < 8 by omega) (show 8 < 2 ^ 31 by omega), nI_clamp (show i < 2 ^ 31 by omega), nI_1]
    by_cases e : S.2.1 2 i = x
    · rw [if_pos e, tra0 h hi, pu_bnd]; simp only [sm_, if_pos e]
    · rw [if_neg e]; simp only [sm_, if_neg e, Int32.add_zero]
  · show f_X8_personsFor_s5 N S P x _ (nI n) = _
    unfold f_X8_personsFor_s5
    rw [PR_P0 h, if_pos (nI_le (Nat.le_refl n) (by omega)), pu_inrO]
theorem with_T (N : Nat) (hN : 66 < N) {n m : Nat} {P L v : VV} (h : PR n m P L v) (x : Int32) : f_X12_withTicket N v x = some (sm_ (fun q => if v.2.1 37 q = x then v.2.1 5 q else 0) n) := by
  have hn := PR_n h
  unfold f_X12_withTicket
  refine itrF n (fun i => (sm_ (fun q => if v.2.1 37 q = x then v.2.1 5 q else 0) i, nI i)) _ ?_ ?_ N 0 (by omega) (by omega)
  · intro i hi
    show f_X12_withTicket_s4 N v x _ (nI i) = _
    unfold f_X12_withTicket_s4 f_X12_withTicket_b35
    rw [PR_v0 h, if_neg (nI_ge hi (by omega)), pu_gin (show i < 184 by omega) (show 184 < 2 ^ 31 by omega), nI_clamp (show i < 2 ^ 31 by omega), nI_1]
    by_cases e : v.2.1 37 i = x
    · rw [if_pos e, pu_gin (show i < 16 by omega) (show 16 < 2 ^ 31 by omega)]; simp only [sm_, if_pos e]
    · rw [if_neg e]; simp only [sm_, if_neg e]
  · show f_X12_withTicket_s4 N v x _ (nI n) = _
    unfold f_X12_withTicket_s4
    rw [PR_v0 h, if_pos (nI_le (Nat.le_refl n) (by omega)), pu_inrO]
theorem tk0 {aw : Prop} {S v : VV} (h : carR aw 0 S v) {p : Nat} (hp : p < 8) : S.2.1 2 p = v.2.1 37 p := by
  have := h.2.1 p hp
  rw [show 8 * 0 + p = p by omega] at this
  exact this
theorem with_S (N : Nat) (hN : 66 < N) {n m : Nat} {aw : Prop} {P L S v : VV} (h : PR n m P L v) (hc : carR aw 0 S v) (x : Int32) : f_X12_withTicket N v x = some (sm_ (fun q => if S.2.1 2 q = x then v.2.1 5 q else 0) n) := by
  have hn := PR_n h
  rw [with_T N hN h]
  congr 1
  exact sm_congr n fun i hi => by simp only [tk0 hc (show i < 8 by omega)]
theorem st_fault (N : Nat) : ST_fault N INV := by
  intro cv T B v a1 hI
  obtain ⟨n, m, h⟩ := hI
  have hr : rdR (cv 2) v := h.2.2.2.2.2.2.2.2.2.1
  unfold f_X11_fault f_X12_fault
  by_cases e : a1 = 0
  · simp only [if_pos e]; exact ⟨_, _, rfl, by rw [hr.1], n, m, inv_kv h (LF.refl _) (KV_0 v)⟩
  · simp only [if_neg e]
    by_cases e1 : a1 = 1
    · simp only [if_pos e1]; exact ⟨_, _, rfl, by rw [hr.2], n, m, inv_kv h (LF.refl _) (KV_0 v)⟩
    · simp only [if_neg e1]; exact ⟨_, _, rfl, rfl, n, m, inv_kv h (LF.refl _) (KV_0 v)⟩
theorem st_named (N : Nat) (hN : 66 < N) : ST_named N INV := by
  intro cv T B v a1 hI
  obtain ⟨n, m, h⟩ := hI
  have hP : PR n m (cv 6) (cv 7) v := h.1
  have hn := PR_n hP
  unfold f_X11_named f_X12_named f_X6_numberOf f_X12_found
  obtain ⟨r, r', h1, h2, h3⟩ := itr2 (A := fun q : Int32 => f_X6_numberOf_s2 N (cv 6) a1 q) (B := fun q : Int32 => f_X12_found_s3 N (si v 0 0) 0 (v.2.1 3 0) a1 q) (fun m s s' => ∃ i, m = n - i ∧ i ≤ n ∧ s = nI i ∧ s' = nI i) (fun r r' => r = r') (by
    intro k s s' hR
    obtain ⟨i, hk, hi, rfl, rfl⟩ := hR
    unfold f_X6_numberOf_s2 f_X12_found_s3
    rw [PR_P0 hP, PR_v0 hP, Int32.zero_add]
    rcases Nat.lt_or_ge i n with hlt | hge
    · rw [if_neg (nI_ge hlt (by omega)), if_neg (nI_ge hlt (by omega)), pu_gin (show i < 8 by omega) (show 8 < 2 ^ 31 by omega), pu_gin (show i < 16 by omega) (show 16 < 2 ^ 31 by omega), nI_clamp (show i < 2 ^ 31 by omega), (PR_tR hP hlt).1]
      show (∃ m' t t', m' < k ∧ (if v.2.1 4 i = a1 then _ else _) = _ ∧ (if v.2.1 4 i = a1 then _ else _) = _ ∧ _) ∨ (∃ r r', (if v.2.1 4 i = a1 then _ else _) = _ ∧ (if v.2.1 4 i = a1 then _ else _) = _ ∧ _)
      by_cases e : v.2.1 4 i = a1
      · right; simp only [if_pos e, pu_inrO]; exact ⟨_, _, rfl, rfl, rfl⟩
      · left; simp only [if_neg e]; exact ⟨n - (i + 1), _, _, by omega, rfl, rfl, i + 1, rfl, hlt, nI_1 i, nI_1 i⟩
    · right
      have : i = n := by omega
      subst this
      simp only [if_pos (nI_le (Nat.le_refl i) (show i < 2 ^ 31 by omega)), pu_inrO]
      exact ⟨_, _, rfl, rfl, rfl⟩) N n 0 0 (by omega) ⟨0, rfl, by omega, rfl, rfl⟩
  subst h3
  rw [h1, h2, pu_bnd, pu_bnd]
  exact ⟨_, _, rfl, rfl, n, m, inv_kv h (LF.refl _) (KV_0 v)⟩
theorem st_wish (N : Nat) : ST_wish N INV := by
  intro cv T B v a1 a2 hI
  obtain ⟨n, m, h⟩ := hI
  have hP : PR n m (cv 6) (cv 7) (si v 0 0) := PR_KV h.1 (LF.refl _) (KV_0 v)
  have hn := PR_n hP
  unfold f_X11_wish f_X12_wish
  have fin : INV cv T B (si v 0 0) := ⟨n, m, inv_kv h (LF.refl _) (KV_0 v)⟩
  rcases hasP hP a1 with ⟨p, hp, rfl, e1, e2⟩ | ⟨e1, e2⟩
  · simp only [e1, e2, pu_bnd, n10, ↓reduceIte]
    rcases pk_ix a2 (n := 3) (by omega) with h1 | h1 | ⟨t, ht, rfl⟩
    · simp only [if_pos h1]; exact ⟨_, _, rfl, rfl, fin⟩
    · have h1' : (3 : Int32) ≤ a2 := h1
      simp only [if_neg (show ¬ a2 < 3 from Int32.not_lt.mpr h1'), if_pos h1', ite_self]; exact ⟨_, _, rfl, rfl, fin⟩
    · simp only [if_neg (nI_pos (show t < 2 ^ 31 by omega)), if_pos (show nI (t) < (3 : Int32) from nI_lt (a := t) (b := 3) (by omega) (by omega)), if_neg (show ¬ (3 : Int32) ≤ nI (t) from nI_ge (a := t) (b := 3) (by omega) (by omega)), traW hP hp ht, pu_bnd, pu_3, pu_gin (show 3 * p + t < 48 by omega) (show 48 < 2 ^ 31 by omega), nI_clamp (show 3 * p + t < 2 ^ 31 by omega)]
      exact ⟨_, _, rfl, rfl, fin⟩
  · simp only [e1, e2, pu_bnd, ↓reduceIte]; exact ⟨_, _, rfl, rfl, fin⟩
theorem ca8 {aw : Prop} {S v : VV} (h : carR aw 0 S v) (haw : aw) {p : Nat} (hp : p < 8) : S.2.1 2 p = v.2.1 37 p ∧ S.2.1 5 p = v.2.1 38 p ∧ S.2.1 6 p = v.2.1 39 p ∧ S.2.1 7 p = v.2.1 40 p ∧ S.2.1 8 p = v.2.1 41 p := by
  obtain ⟨_, a2, a3, a4, a5, a6, a7, a8⟩ := h
  have b2 := a2 p hp
  have b3 := a3 p hp
  have b4 := a4 p hp
  have b5 := a5 haw p hp
  have b6 := a6 p hp
  rw [show 8 * 0 + p = p by omega] at b2 b3 b4 b5 b6
  exact ⟨b2, b3, b4, b5, b6⟩
theorem ca3 {aw : Prop} {S v : VV} (h : carR aw 0 S v) {p : Nat} (hp : p < 3) : S.2.1 3 p = v.2.1 42 p ∧ S.2.1 4 p = v.2.1 43 p := by
  obtain ⟨_, a2, a3, a4, a5, a6, a7, a8⟩ := h
  have b2 := a7 p hp
  have b3 := a8 p hp
  rw [show 3 * 0 + p = p by omega] at b2 b3
  exact ⟨b2, b3⟩
theorem st_party (N : Nat) : ST_party N INV := by
  intro cv T B v o a1 a2 hI
  obtain ⟨n, m, h⟩ := hI
  have hP : PR n m (cv 6) (cv 7) v := h.1
  have hn := PR_n hP
  have hc : carR True 0 (cv 8) v := h.2.1.1
  have fin : ∀ z, INV cv T B (si v 0 z) := fun z => ⟨n, m, inv_kv h (LF.refl _) (KV_si 0 z (by omega))⟩
  have hn0 : ∀ z : Int32, (si v 0 z).1 0 = z := fun z => rfl
  unfold f_L_party f_X11_party f_X12_party f_X12_party_b23 f_X12_party_b28
  rcases hasP hP a1 with ⟨p, hp, rfl, e1, e2⟩ | ⟨e1, e2⟩
  · obtain ⟨b2, b3, b4, b5, b6⟩ := ca8 hc trivial (show p < 8 by omega)
    simp only [e1, e2, pu_bnd, if_neg (show ¬ (1 : Int32) = 0 from by decide), if_neg (show ¬ (2 : Int32) = 0 from by decide), if_pos (show (0 : Int32) = 0 from rfl), pu_gin (show p < 8 by omega) (show 8 < 2 ^ 31 by omega), pu_gin (show p < 16 by omega) (show 16 < 2 ^ 31 by omega), pu_gin (show p < 184 by omega) (show 184 < 2 ^ 31 by omega), nI_clamp (show p < 2 ^ 31 by omega), tra0 hP hp, tra4 hP hp, tra5 hP hp, tra6 hP hp]
    have fr : ∀ x : Int32, ∃ (k b : Int32) (o1 : Nat → Int64) (v1 : VV), bnd (some ((0 : Int32), x)) (fun q => if q.1 = 0 then some ((0 : Int32), vp_updL o 0 q.2.toInt64) else some (q.1, o)) = some (k, o1) ∧ some (x, si v 0 0) = some (b, v1) ∧ v1.1 0 = k ∧ (k = 0 → o1 0 = b.toInt64) ∧ INV cv T B v1 := fun x => ⟨0, x, vp_updL o 0 x.toInt64, si v 0 0, rfl, rfl, rfl, fun _ => pk_uLs, fin 0⟩
    have bad : ∃ (k b : Int32) (o1 : Nat → Int64) (v1 : VV), bnd (some ((2 : Int32), (0 : Int32))) (fun q => if q.1 = 0 then some ((0 : Int32), vp_updL o 0 q.2.toInt64) else some (q.1, o)) = some (k, o1) ∧ some ((0 : Int32), si v 0 2) = some (b, v1) ∧ v1.1 0 = k ∧ (k = 0 → o1 0 = b.toInt64) ∧ INV cv T B v1 := ⟨2, 0, o, si v 0 2, rfl, rfl, rfl, fun h => absurd h (by decide), fin 2⟩
    rcases pk_ix a2 (n := 9) (by omega) with h1 | h1 | ⟨t, ht, rfl⟩
    · have hne : ∀ c : Int32, ¬ c < 0 → ¬ a2 = c := fun c hc e => hc (e ▸ h1)
      rw [if_pos h1, if_neg (hne 0 (by decide)), if_neg (hne 1 (by decide)), if_neg (hne 2 (by decide)), if_neg (hne 3 (by decide)), if_neg (hne 4 (by decide)), if_neg (hne 5 (by decide)), if_neg (hne 6 (by decide)), if_neg (hne 7 (by decide)), if_neg (hne 8 (by decide))]
      exact bad
    · have h1' : (9 : Int32) ≤ a2 := h1
      have hne : ∀ c : Int32, c < 9 → ¬ a2 = c := fun c hc e => absurd (i_lt_le hc h1') (by rw [e]; exact Int32.lt_irrefl)
      have hle : ¬ a2 ≤ 8 := fun e => absurd (i_le_lt (Int32.le_trans h1' e) (show (8 : Int32) < 9 from by decide)) Int32.lt_irrefl
      rw [if_neg hle, ite_self, if_neg (hne 0 (by decide)), if_neg (hne 1 (by decide)), if_neg (hne 2 (by decide)), if_neg (hne 3 (by decide)), if_neg (hne 4 (by decide)), if_neg (hne 5 (by decide)), if_neg (hne 6 (by decide)), if_neg (hne 7 (by decide)), if_neg (hne 8 (by decide))]
      exact bad
    · rw [if_neg (nI_pos (show t < 2 ^ 31 by omega)), if_pos (show nI (t) ≤ (8 : Int32) from nI_le (a := t) (b := 8) (by omega) (by omega))]
      have : t = 0 ∨ t = 1 ∨ t = 2 ∨ t = 3 ∨ t = 4 ∨ t = 5 ∨ t = 6 ∨ t = 7 ∨ t = 8 := by omega
      rcases this with rfl | rfl | rfl | rfl | rfl | rfl | rfl | rfl | rfl
      · exact fr _
      · exact fr _
      · exact fr _
      · exact fr _
      · have := fr ((cv 8).2.1 2 p); rw [show some ((cv 8).2.1 2 p, si v 0 0) = some (v.2.1 37 p, si v 0 0) by rw [b2]] at this; exact this
      · have := fr ((cv 8).2.1 5 p); rw [show some ((cv 8).2.1 5 p, si v 0 0) = some (v.2.1 38 p, si v 0 0) by rw [b3]] at this; exact this
      · have := fr ((cv 8).2.1 6 p); rw [show some ((cv 8).2.1 6 p, si v 0 0) = some (v.2.1 39 p, si v 0 0) by rw [b4]] at this; exact this
      · have := fr ((cv 8).2.1 7 p); rw [show some ((cv 8).2.1 7 p, si v 0 0) = some (v.2.1 40 p, si v 0 0) by rw [b5]] at this; exact this
      · have := fr ((cv 8).2.1 8 p); rw [show some ((cv 8).2.1 8 p, si v 0 0) = some (v.2.1 41 p, si v 0 0) by rw [b6]] at this; exact this
  · simp only [e1, e2, pu_bnd, n10, ↓reduceIte]
    exact ⟨1, 0, o, si v 0 1, rfl, rfl, rfl, fun h => absurd h (by decide), fin 1⟩
theorem st_sitting (N : Nat) (hN : 66 < N) : ST_sitting N INV := by
  intro cv T B v a1 a2 hI
  obtain ⟨n, m, h⟩ := hI
  have hP : PR n m (cv 6) (cv 7) (si v 0 0) := PR_KV h.1 (LF.refl _) (KV_0 v)
  have hm := PR_m hP
  have hc : carR True 0 (cv 8) (si v 0 0) := h.2.1.1
  have hs : seenR m 0 (cv 8) v := h.2.1.2.1
  have fin : INV cv T B (si v 0 0) := ⟨n, m, inv_kv h (LF.refl _) (KV_0 v)⟩
  unfold f_X11_sitting f_X12_sitting f_X11_ofLatestDay
  rcases hasS hP a1 with ⟨t, ht, rfl, e1, e2⟩ | ⟨e1, e2⟩
  · simp only [e1, e2, pu_bnd, if_neg (show ¬ (1 : Int32) = 0 from by decide), pu_gin (show t < 3 by omega) (show 3 < 2 ^ 31 by omega), pu_gin (show t < 6 by omega) (show 6 < 2 ^ 31 by omega), pu_gin (show t < 69 by omega) (show 69 < 2 ^ 31 by omega), nI_clamp (show t < 2 ^ 31 by omega), pers_S N hN hP, with_S N hN hP hc]
    have h34 := ca3 hc (show t < 3 by omega)
    have h10 : (cv 6).2.1 4 t = v.2.1 10 t := (PR_sR hP ht).1
    by_cases c0 : a2 = 0
    · simp only [if_pos c0]; exact ⟨_, _, rfl, by rw [h10], fin⟩
    simp only [if_neg c0]
    by_cases c1 : a2 = 1
    · simp only [if_pos c1]; exact ⟨_, _, rfl, by rw [h34.2]; rfl, fin⟩
    simp only [if_neg c1]
    by_cases c2 : a2 = 2
    · simp only [if_pos c2]; exact ⟨_, _, rfl, by rw [h34.1]; rfl, fin⟩
    simp only [if_neg c2]
    by_cases c3 : a2 = 3
    · simp only [if_pos c3]; exact ⟨_, _, rfl, rfl, fin⟩
    simp only [if_neg c3]
    rcases hs with ⟨s0, s1⟩ | ⟨s0, s1⟩
    · obtain ⟨g1, g2, g3, g4⟩ := s1 t (by omega)
      rw [show 3 * 0 + t = t by omega] at g1 g2 g3 g4
      simp only [if_pos s0, g1, g2, g3, g4, ↓reduceIte, ite_self]
      exact ⟨_, _, rfl, rfl, fin⟩
    · obtain ⟨g0, g1, g2, g3, g4, g5⟩ := s1 t ht
      rw [show 3 * 0 + t = t by omega] at g0 g1 g2 g3 g4 g5
      have hne : ¬ v.2.1 44 t = -1 := fun e => g0 (by rw [e]; decide)
      simp only [if_neg (show ¬ (cv 8).1 12 = 0 from by rw [s0]; decide), g1, g2, g3, g4, g5, if_neg hne]
      by_cases c4 : a2 = 4
      · simp only [if_pos c4, pu_bnd]; exact ⟨_, _, rfl, rfl, fin⟩
      simp only [if_neg c4]
      by_cases c5 : a2 = 5
      · simp only [if_pos c5, pu_bnd]; exact ⟨_, _, rfl, rfl, fin⟩
      simp only [if_neg c5]
      by_cases c6 : a2 = 6
      · simp only [if_pos c6, pu_bnd]; exact ⟨_, _, rfl, rfl, fin⟩
      simp only [if_neg c6]
      by_cases c7 : a2 = 7
      · simp only [if_pos c7, pu_bnd]; exact ⟨_, _, rfl, rfl, fin⟩
      simp only [if_neg c7]
      by_cases c8 : a2 = 8
      · simp only [if_pos c8, pu_bnd]; exact ⟨_, _, rfl, rfl, fin⟩
      simp only [if_neg c8, pu_bnd]
      exact ⟨_, _, rfl, rfl, fin⟩
  · simp only [e1, e2, pu_bnd, ↓reduceIte]; exact ⟨_, _, rfl, rfl, fin⟩
theorem st_without (N : Nat) (hN : 66 < N) : ST_without N INV := by
  intro cv T B v hI
  obtain ⟨n, m, h⟩ := hI
  have hP : PR n m (cv 6) (cv 7) (si v 0 0) := PR_KV h.1 (LF.refl _) (KV_0 v)
  have hc : carR True 0 (cv 8) (si v 0 0) := h.2.1.1
  unfold f_X11_without f_X12_without
  rw [pers_S N hN hP, with_S N hN hP hc, pu_bnd, pu_bnd]
  exact ⟨_, _, rfl, rfl, n, m, inv_kv h (LF.refl _) (KV_0 v)⟩
theorem st_mostCross (N : Nat) (hN : 66 < N) : ST_mostCross N INV := by
  intro cv T B v a1 hI
  obtain ⟨n, m, h⟩ := hI
  have hP : PR n m (cv 6) (cv 7) (si v 0 0) := PR_KV h.1 (LF.refl _) (KV_0 v)
  have hn := PR_n hP
  have hc : carR True 0 (cv 8) (si v 0 0) := h.2.1.1
  have fin : INV cv T B (si v 0 0) := ⟨n, m, inv_kv h (LF.refl _) (KV_0 v)⟩
  unfold f_X11_mostCross f_X12_mostCross
  by_cases c1 : a1 < 0
  · rw [if_pos c1, if_pos c1]; exact ⟨_, _, rfl, rfl, fin⟩
  rw [if_neg c1, if_neg c1]
  by_cases c2 : (1 : Int32) < a1
  · rw [if_pos c2, if_pos c2]; exact ⟨_, _, rfl, rfl, fin⟩
  rw [if_neg c2, if_neg c2, PR_P0 hP, show v.2.1 3 0 = nI n from PR_v0 hP]
  by_cases c3 : nI n = 0
  · rw [if_pos c3, if_pos c3]; exact ⟨_, _, rfl, rfl, fin⟩
  rw [if_neg c3, if_neg c3]
  have hn1 : 1 ≤ n := by
    rcases Nat.eq_zero_or_pos n with h0 | h0
    · subst h0; exact absurd rfl c3
    · exact h0
  have hcr : ∀ p, p < n → (cv 8).2.1 6 p = (si v 0 0).2.1 39 p := fun p hp => (ca8 hc trivial (show p < 8 by omega)).2.2.1
  obtain ⟨r, r', h1, h2, h3⟩ := itr2 (A := fun q : Int32 × Int32 => f_X11_mostCross_s25 N (cv 0) (cv 6) (cv 8) a1 q.1 q.2) (B := fun q : Int32 × Int32 × VV => f_X12_mostCross_s29 N q.2.2 a1 q.1 q.2.1) (fun k s s' => ∃ i b, k = n - i ∧ 1 ≤ i ∧ i ≤ n ∧ b < n ∧ s = (nI b, nI i) ∧ s' = (nI b, nI i, si v 0 0)) (fun r r' => r' = (r, si v 0 0)) (by
    intro k s s' hR
    obtain ⟨i, b, hk, hi1, hi, hb, rfl, rfl⟩ := hR
    simp only
    unfold f_X11_mostCross_s25 f_X12_mostCross_s29 f_X11_mostCross_b59 f_X12_mostCross_b56
    rw [PR_P0 hP, PR_v0 hP]
    rcases Nat.lt_or_ge i n with hlt | hge
    · left
      simp only [if_neg (nI_ge hlt (show n < 2 ^ 31 by omega)), pu_gin (show i < 8 by omega) (show 8 < 2 ^ 31 by omega), pu_gin (show b < 8 by omega) (show 8 < 2 ^ 31 by omega), pu_gin (show i < 184 by omega) (show 184 < 2 ^ 31 by omega), pu_gin (show b < 184 by omega) (show 184 < 2 ^ 31 by omega), nI_clamp (show i < 2 ^ 31 by omega), nI_clamp (show b < 2 ^ 31 by omega), hcr i hlt, hcr b hb]
      by_cases e : (si v 0 0).2.1 39 i ≤ (si v 0 0).2.1 39 b
      · simp only [if_pos e]; exact ⟨n - (i + 1), _, _, by omega, rfl, rfl, i + 1, b, rfl, by omega, hlt, hb, by rw [nI_1], by rw [nI_1]⟩
      · simp only [if_neg e]; exact ⟨n - (i + 1), _, _, by omega, rfl, rfl, i + 1, i, rfl, by omega, hlt, hlt, by rw [nI_1], by rw [nI_1]⟩
    · right
      have : i = n := by omega
      subst this
      simp only [if_pos (nI_le (Nat.le_refl i) (show i < 2 ^ 31 by omega)), pu_gin (show b < 8 by omega) (show 8 < 2 ^ 31 by omega), pu_gin (show b < 184 by omega) (show 184 < 2 ^ 31 by omega), nI_clamp (show b < 2 ^ 31 by omega), hcr b hb]
      by_cases e : a1 = 0
      · simp only [if_pos e, pu_inrO]; exact ⟨_, _, rfl, rfl, rfl⟩
      · simp only [if_neg e, pu_inrO]; exact ⟨_, _, rfl, rfl, rfl⟩) N (n - 1) (0, 1) (0, 1, si v 0 0) (by omega) ⟨1, 0, rfl, by omega, by omega, by omega, rfl, rfl⟩
  subst h3
  exact ⟨r, si v 0 0, h1, h2, fin⟩
