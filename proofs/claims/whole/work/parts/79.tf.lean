/-! text: the whole of it -/
theorem itrG {σ ρ : Type} {A : σ → Option (σ ⊕ ρ)} (e : Nat) (S : Nat → σ) (o : Option ρ) (hs : ∀ i, i < e → A (S i) = some (.inl (S (i + 1)))) (hx : A (S e) = inrO o) : ∀ d n i, e - i ≤ d → i ≤ e → d < n → itr A n (S i) = o := by
  intro d
  induction d with
  | zero =>
    intro n i hd hi hn
    have : i = e := by omega
    subst this
    exact itr_x hn hx
  | succ d ih =>
    intro n i hd hi hn
    rcases Nat.lt_or_ge i e with hl | hg
    · rw [itr_s (by omega) (hs i hl)]
      exact ih (n - 1) (i + 1) (by omega) (by omega) (by omega)
    · exact ih n i (by omega) hi (by omega)
def cl6 (P : VV) : Nat → VV
  | 0 => P
  | i + 1 => sr (sr (cl6 P i) 6 i ((evC 4).getD i 0)) 7 i 0
def cl3 (P : VV) : Nat → VV
  | 0 => P
  | i + 1 => sr (sr (cl3 P i) 4 i 0) 5 i 0
theorem clear3 (N : Nat) (hN : 66 < N) (L : VV) : f_X3_clear N L = some (cl3 (si (si L 2 0) 3 0) 3) := by
  unfold f_X3_clear
  refine itrF (A := fun q : Int32 × VV => f_X3_clear_s12 N q.2 q.1) 3 (fun i => (nI i, cl3 (si (si L 2 0) 3 0) i)) _ ?_ ?_ N 0 (by omega) (by omega)
  · intro i hi
    show f_X3_clear_s12 N (cl3 (si (si L 2 0) 3 0) i) (nI i) = _
    unfold f_X3_clear_s12
    rw [if_neg (show ¬ (3 : Int32) ≤ nI (i) from nI_ge (a := i) (b := 3) (by omega) (by omega)), pu_gin (show i < 3 by omega) (show 3 < 2 ^ 31 by omega), pu_gin (show i < 3 by omega) (show 3 < 2 ^ 31 by omega), nI_clamp (show i < 2 ^ 31 by omega), nI_1]
    rfl
  · show f_X3_clear_s12 N (cl3 (si (si L 2 0) 3 0) 3) (nI 3) = _
    unfold f_X3_clear_s12
    rw [if_pos (show (3 : Int32) ≤ nI 3 by decide), pu_inrO]
theorem clear6 (N : Nat) (hN : 66 < N) (P L : VV) : f_X6_clear N P L = some (cl3 (cl6 (si (si P 0 0) 3 0) 6) 3, cl3 (si (si L 2 0) 3 0) 3) := by
  unfold f_X6_clear
  refine itrG (A := fun q : Int32 × VV × VV => f_X6_clear_s12 N q.2.1 q.2.2 q.1) 6 (fun i => (nI i, cl6 (si (si P 0 0) 3 0) i, L)) _ ?_ ?_ 6 N 0 (by omega) (by omega) (by omega)
  · intro i hi
    show f_X6_clear_s12 N (cl6 (si (si P 0 0) 3 0) i) L (nI i) = _
    unfold f_X6_clear_s12
    rw [if_neg (show ¬ (6 : Int32) ≤ nI (i) from nI_ge (a := i) (b := 6) (by omega) (by omega)), pu_gin (show i < 6 by omega) (show 6 < 2 ^ 31 by omega), pu_gin (show i < 6 by omega) (show 6 < 2 ^ 31 by omega), pu_gin (show i < 6 by omega) (show 6 < 2 ^ 31 by omega), nI_clamp (show i < 2 ^ 31 by omega), nI_1]
    rfl
  · show f_X6_clear_s12 N (cl6 (si (si P 0 0) 3 0) 6) L (nI 6) = _
    unfold f_X6_clear_s12
    rw [if_pos (show (6 : Int32) ≤ nI 6 by decide)]
    congr 1
    refine itrG (A := fun q : Int32 × VV × VV => f_X6_clear_s44 N q.2.1 q.2.2 q.1) 3 (fun i => (nI i, cl3 (cl6 (si (si P 0 0) 3 0) 6) i, L)) _ ?_ ?_ 3 N 0 (by omega) (by omega) (by omega)
    · intro i hi
      show f_X6_clear_s44 N (cl3 (cl6 (si (si P 0 0) 3 0) 6) i) L (nI i) = _
      unfold f_X6_clear_s44
      rw [if_neg (show ¬ (3 : Int32) ≤ nI (i) from nI_ge (a := i) (b := 3) (by omega) (by omega)), pu_gin (show i < 3 by omega) (show 3 < 2 ^ 31 by omega), pu_gin (show i < 3 by omega) (show 3 < 2 ^ 31 by omega), nI_clamp (show i < 2 ^ 31 by omega), nI_1]
      rfl
    · show f_X6_clear_s44 N (cl3 (cl6 (si (si P 0 0) 3 0) 6) 3) L (nI 3) = _
      unfold f_X6_clear_s44
      rw [if_pos (show (3 : Int32) ≤ nI 3 by decide), clear3 N hN, pu_bnd]
def rdf (i : Nat) : Int32 := [0, 12, 0, 30, 20, 2, 0, 0, 0].getD i 0
def rd9 (v : VV) : Nat → VV
  | 0 => v
  | i + 1 => sr (rd9 v i) 3 (9 + i) (rdf i)
def rd3 (v : VV) : Nat → VV
  | 0 => v
  | i + 1 => sr (sr (rd3 v i) 12 (3 + i) 0) 13 (3 + i) 0
theorem rd9_PF (v : VV) : ∀ i, PF v (rd9 v i)
  | 0 => PF.refl v
  | i + 1 => (rd9_PF v i).trans (PF_sr 3 (9 + i) _ (by omega) (by omega) (by rw [hk_3]; omega))
theorem rd3_PF (v : VV) : ∀ i, PF v (rd3 v i)
  | 0 => PF.refl v
  | i + 1 => ((rd3_PF v i).trans (PF_sr 12 (3 + i) _ (by omega) (by omega) (by show 3 ≤ 3 + i; omega))).trans (PF_sr 13 (3 + i) _ (by omega) (by omega) (by show 3 ≤ 3 + i; omega))
theorem textB (N : Nat) (hN : 66 < N) (v : VV) : itr (fun q : Int32 × VV => f_X12_text_s47 N q.2 q.1) N (0, v) = bnd (f_X12_token N (si (si (si (si (rd3 (rd9 v 9) 3) 16 0) 17 0) 27 0) 28 0)) (fun q => itr (fun q : VV => f_X12_text_s156 N q) N q) := by
  refine itrG (A := fun q : Int32 × VV => f_X12_text_s47 N q.2 q.1) 9 (fun i => (nI i, rd9 v i)) _ ?_ ?_ 9 N 0 (by omega) (by omega) (by omega)
  · intro i hi
    show f_X12_text_s47 N (rd9 v i) (nI i) = _
    have e : ∀ z : Int32, f_X12_text_b95 N (rd9 v i) (nI i) z (nI i) = some (.inl (nI (i + 1), sr (rd9 v i) 3 (9 + i) z)) := by
      intro z
      unfold f_X12_text_b95 f_X12_reads
      have e9 : (9 : Int32) + nI i = nI (9 + i) := by rw [← nI_add]; rfl
      rw [e9, pu_gin (show 9 + i < 18 by omega) (show 18 < 2 ^ 31 by omega), pu_bnd, nI_clamp (show 9 + i < 2 ^ 31 by omega), nI_1]
    unfold f_X12_text_s47
    rw [if_neg (show ¬ (9 : Int32) ≤ nI (i) from nI_ge (a := i) (b := 9) (by omega) (by omega)), e, e, e, e, e]
    show _ = some (Sum.inl (nI (i + 1), sr (rd9 v i) 3 (9 + i) (rdf i)))
    have hc : i = 0 ∨ i = 1 ∨ i = 2 ∨ i = 3 ∨ i = 4 ∨ i = 5 ∨ i = 6 ∨ i = 7 ∨ i = 8 := by omega
    rcases hc with rfl | rfl | rfl | rfl | rfl | rfl | rfl | rfl | rfl <;> rfl
  · show f_X12_text_s47 N (rd9 v 9) (nI 9) = _
    unfold f_X12_text_s47
    rw [if_pos (show (9 : Int32) ≤ nI 9 by decide)]
    congr 1
    refine itrG (A := fun q : Int32 × VV => f_X12_text_s106 N q.2 q.1) 3 (fun i => (nI (3 + i), rd3 (rd9 v 9) i)) _ ?_ ?_ 3 N 0 (by omega) (by omega) (by omega)
    · intro i hi
      show f_X12_text_s106 N (rd3 (rd9 v 9) i) (nI (3 + i)) = _
      unfold f_X12_text_s106
      rw [if_neg (show ¬ (6 : Int32) ≤ nI (3 + i) from nI_ge (a := 3 + i) (b := 6) (by omega) (by omega)), pu_gin (show 3 + i < 6 by omega) (show 6 < 2 ^ 31 by omega), pu_gin (show 3 + i < 6 by omega) (show 6 < 2 ^ 31 by omega), nI_clamp (show 3 + i < 2 ^ 31 by omega), nI_1]
      rfl
    · show f_X12_text_s106 N (rd3 (rd9 v 9) 3) (nI 6) = _
      unfold f_X12_text_s106
      rw [if_pos (show (6 : Int32) ≤ nI 6 by decide)]
theorem bt_z (i : Nat) : bt 0 i = false := by
  unfold bt
  exact BitVec.getLsbD_zero
/-- what is read: the texts' ends -/
theorem readR (N : Nat) (hN : 2000 < N) {X v : VV} {T : Nat → Int32} (R K P L : VV) {k nn : Nat} (hk : k ≤ 700) (hX : v.1 2 = nI k) (hT : ∀ i, i < k → bytR (T i) (v.2.1 1 i)) (hn : nn ≤ k) : ∃ z R' K' P' L' v', f_X7_read N R K P L T (nI nn) = some (z, R', K', P', L') ∧ f_X12_text N v (nI nn) = f_X12_text_b178 N v' ∧ PF (si (si v 0 0) 2 0) v' ∧ ((z = 0 ∧ FT R' v') ∨ (z = 1 ∧ v'.1 23 = 0 ∧ ∃ a c, PR a c P' L' (up v') ∧ R'.1 4 = v'.1 17 ∧ R'.1 5 = 0 ∧ R'.1 6 = -1 ∧ v'.1 24 = -1)) := by
  have hb : HB nn (fun i => (v.2.1 1 i).toNatClampNeg) := by
    refine ⟨by omega, fun i hi => ?_⟩
    obtain ⟨x, x1, x2, x3⟩ := hT i (by omega)
    show (v.2.1 1 i).toNatClampNeg < 256
    rw [x2, nI_clamp (show x < 2 ^ 31 by omega)]; exact x1
  have hc : CT nn (fun i => (v.2.1 1 i).toNatClampNeg) T := by
    intro i hi
    obtain ⟨x, x1, x2, x3⟩ := hT i (by omega)
    show T i = tb (v.2.1 1 i).toNatClampNeg
    rw [x2, nI_clamp (show x < 2 ^ 31 by omega)]; exact x3
  obtain ⟨K', cnt, E, s1, s2, s3, s4, s5, s6', s7⟩ := splitR N hN K hb hc
  have hK : TKS N nn cnt (fun i => (v.2.1 1 i).toNatClampNeg) K' E := ⟨hb, s2, s3, s5, s6', s7⟩
  generalize hv0 : si (si (si (si (si (si v 0 0) 18 (nI nn)) 2 0) 19 0) 23 0) 24 (-1) = v0 at *
  have p0 : PF (si (si v 0 0) 2 0) v0 := by
    subst hv0
    refine ⟨fun q hq => ?_, fun _ _ => rfl, fun _ _ _ _ _ => rfl⟩
    simp only [pu_si1]
    rw [if_neg (show ¬ q = 24 by omega), if_neg (show ¬ q = 23 by omega), if_neg (show ¬ q = 19 by omega), if_neg (show ¬ q = 18 by omega)]
  have e18 : v0.1 18 = nI nn ∧ v0.1 19 = 0 ∧ v0.1 23 = 0 ∧ v0.1 24 = -1 ∧ v0.2.1 1 = v.2.1 1 := by subst hv0; exact ⟨rfl, rfl, rfl, rfl, rfl⟩
  generalize hw : si (si (si (si (rd3 (rd9 v0 9) 3) 16 0) 17 0) 27 0) 28 0 = w at *
  have p1 : PF v0 w := by
    subst hw
    exact ((((((rd9_PF v0 9).trans (rd3_PF (rd9 v0 9) 3)).trans (PF_si 16 0 (by omega))).trans (PF_si 17 0 (by omega))).trans (PF_si 27 0 (by omega))).trans (PF_si 28 0 (by omega)))
  have w3 : ∀ i, i < 9 → w.2.1 3 (9 + i) = rdf i := by
    subst hw
    intro i hi
    have hc : i = 0 ∨ i = 1 ∨ i = 2 ∨ i = 3 ∨ i = 4 ∨ i = 5 ∨ i = 6 ∨ i = 7 ∨ i = 8 := by omega
    rcases hc with rfl | rfl | rfl | rfl | rfl | rfl | rfl | rfl | rfl <;> rfl
  have w12 : ∀ i, i < 3 → w.2.1 12 (3 + i) = 0 ∧ w.2.1 13 (3 + i) = 0 := by
    subst hw
    intro i hi
    have hc : i = 0 ∨ i = 1 ∨ i = 2 := by omega
    rcases hc with rfl | rfl | rfl <;> exact ⟨rfl, rfl⟩
  have ws : w.1 16 = 0 ∧ w.1 17 = 0 ∧ w.1 27 = 0 ∧ w.1 28 = 0 ∧ w.1 18 = v0.1 18 ∧ w.1 19 = v0.1 19 ∧ w.1 23 = v0.1 23 ∧ w.1 24 = v0.1 24 := by subst hw; exact ⟨rfl, rfl, rfl, rfl, rfl, rfl, rfl, rfl⟩
  have hR : RT nn (fun i => (v.2.1 1 i).toNatClampNeg) w := by
    refine ⟨by rw [ws.2.2.2.2.1]; exact e18.1, fun i hi => ?_⟩
    obtain ⟨x, x1, x2, x3⟩ := hT i (by omega)
    show w.2.1 1 i = nI (v.2.1 1 i).toNatClampNeg
    rw [p1.2.1 1 (by omega), e18.2.2.2.2, x2, nI_clamp (show x < 2 ^ 31 by omega)]
  obtain ⟨v1, t1, t2, t3, t4, t5⟩ := s5 0 (by omega) w hR (by rw [ws.2.2.2.2.2.1, e18.2.1, s4]; rfl)
  have f1 : ∀ q, q < 19 ∨ 22 < q → v1.1 q = w.1 q := fun q hq => t2.1 q (by omega) (by omega) (by omega) (by omega)
  have c6 := clear6 N (by omega) P L
  generalize hP0 : cl3 (cl6 (si (si P 0 0) 3 0) 6) 3 = P0 at *
  generalize hL0 : cl3 (si (si L 2 0) 3 0) 3 = L0 at *
  have P1 : P0.1 0 = 0 ∧ P0.1 3 = 0 ∧ (∀ s, s < 6 → P0.2.1 6 s = rdf (swd s) ∧ P0.2.1 7 s = 0) ∧ ∀ t, t < 3 → P0.2.1 5 t = 0 := by
    subst hP0
    refine ⟨rfl, rfl, fun s hs => ?_, fun t ht => ?_⟩
    · rcases s6 hs with rfl | rfl | rfl | rfl | rfl | rfl <;> exact ⟨rfl, rfl⟩
    · have hc : t = 0 ∨ t = 1 ∨ t = 2 := by omega
      rcases hc with rfl | rfl | rfl <;> rfl
  have L1 : L0.1 2 = 0 ∧ L0.1 3 = 0 ∧ ∀ t, t < 3 → L0.2.1 4 t = 0 ∧ L0.2.1 5 t = 0 := by
    subst hL0
    refine ⟨rfl, rfl, fun t ht => ?_⟩
    have hc : t = 0 ∨ t = 1 ∨ t = 2 := by omega
    rcases hc with rfl | rfl | rfl <;> exact ⟨rfl, rfl⟩
  have e2 : v1.2 = w.2 := t2.2
  have u3 : ∀ i, i < 9 → (up v1).2.1 3 i = rdf i := fun i hi => by
    show v1.2.1 3 (9 + i) = _
    rw [e2]; exact w3 i hi
  have hPR : PR 0 0 P0 L0 (up v1) := by
    refine ⟨⟨by omega, by omega⟩, ⟨P1.1, u3 0 (by omega), P1.2.1, u3 2 (by omega)⟩, fun p hp => by omega, fun t ht => by omega, fun t _ ht => P1.2.2.2 t ht, ?_, ?_, fun r hr => ?_, ?_⟩
    · rw [seR_iff]
      intro s hs
      rw [(P1.2.2.1 s hs).1, u3 (swd s) (by have := (swd_ne s hs).1; omega)]
    · rw [seB_iff]
      intro s hs
      rw [u3 (swd s) (by have := (swd_ne s hs).1; omega)]
      rcases s6 hs with rfl | rfl | rfl | rfl | rfl | rfl
      · exact ⟨12, by decide, by decide, rfl⟩
      · exact ⟨30, by decide, by decide, rfl⟩
      · exact ⟨20, by decide, by decide, rfl⟩
      · exact ⟨2, by decide, by decide, rfl⟩
      · exact ⟨0, by decide, by decide, rfl⟩
      · exact ⟨0, by decide, by decide, rfl⟩
    · refine ⟨0, 0, (L1.2.2 r hr).1, ?_, (L1.2.2 r hr).2, ?_, by omega, by omega, fun h => by omega, fun i _ h => by omega⟩
      · show v1.2.1 12 (3 + r) = 0
        rw [e2]; exact (w12 r hr).1
      · show v1.2.1 13 (3 + r) = 0
        rw [e2]; exact (w12 r hr).2
    · rw [L1.2.1, u3 8 (by omega)]; rfl
  have hLI : LI nn cnt (fun i => (v.2.1 1 i).toNatClampNeg) K' E 0 0 0 0 (si (si (si (si R 2 0) 5 0) 6 (-1)) 4 0) P0 L0 v1 := by
    refine ⟨⟨⟨by omega, by omega, by omega⟩, ⟨⟨by rw [f1 18 (by omega)]; exact hR.1, fun i hi => by rw [e2]; exact hR.2 i hi⟩, t3, t4, t5⟩, rfl, ⟨by rw [f1 23 (by omega), ws.2.2.2.2.2.2.1, e18.2.2.1], by rw [f1 27 (by omega), ws.2.2.1]; rfl⟩, ⟨L1.1, ?_⟩, ⟨L1.2.1, by rw [f1 28 (by omega), ws.2.2.2.1]; rfl⟩, fun i hi => by omega⟩, hPR, ⟨fun s hs => Or.inl ⟨(P1.2.2.1 s hs).2, by rw [f1 16 (by omega), ws.1, bt_z]⟩, fun r hr => ⟨0, 0, (L1.2.2 r hr).1, (L1.2.2 r hr).2, by omega, by omega, Or.inr ⟨by omega, by rw [f1 16 (by omega), ws.1, bt_z]⟩⟩⟩, ?_, rfl, rfl, by rw [f1 24 (by omega), ws.2.2.2.2.2.2.2, e18.2.2.2.1]⟩
    · rw [e2]; exact w3 8 (by omega)
    · rw [f1 17 (by omega), ws.2.1]; rfl
  obtain ⟨z, R', P', L', v', l1, l2, l3, l4⟩ := linesR hK hN T cnt N N 0 0 0 0 0 _ P0 L0 v1 (by omega) (by omega) (by omega) (by omega) hLI
  refine ⟨z, R', K', P', L', v', ?_, ?_, (p0.trans p1).trans ((PF_TF t2).trans l3), ?_⟩
  · unfold f_X7_read
    rw [s1, pu_bnd, c6, pu_bnd]
    exact l1
  · unfold f_X12_text
    rw [if_neg (nI_pos (show nn < 2 ^ 31 by omega)), if_pos (by rw [hX]; exact nI_le hn (by omega)), hv0, textB N (by omega), hw, t1, pu_bnd]
    exact l2
  · rcases l4 with h | ⟨h1, h2, a, c, q, j, h3⟩
    · exact Or.inl h
    · exact Or.inr ⟨h1, h2, a, c, h3.2.1, h3.2.2.2⟩
