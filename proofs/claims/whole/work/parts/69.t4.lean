/-! text: an E, read by both -/
variable {N n cnt : Nat} {b : Nat → Nat} {K : VV} {E : Nat → Nat}
def TKS (N n cnt : Nat) (b : Nat → Nat) (K : VV) (E : Nat → Nat) : Prop := HB n b ∧ cnt ≤ 700 ∧ K.1 3 = nI (cnt + 1) ∧ (∀ j, j ≤ cnt → TOK N n b K E j) ∧ (∀ j, j < cnt → ¬ K.2.1 0 j = 0) ∧ K.2.1 0 cnt = 0
/-- the reference is at token j -/
def AT (n : Nat) (b : Nat → Nat) (K : VV) (E : Nat → Nat) (j : Nat) (v : VV) : Prop := RT n b v ∧ v.1 19 = nI (E (j + 1)) ∧ v.1 20 = K.2.1 1 j ∧ tokR (K.2.1 0 j) (K.2.1 2 j) (v.1 21) (v.1 22)
theorem AT_next (h : TKS N n cnt b K E) {j : Nat} {v : VV} (ha : AT n b K E j v) (hj : j < cnt) : ∃ v', f_X12_token N v = some v' ∧ TF v v' ∧ AT n b K E (j + 1) v' := by
  obtain ⟨v', a1, a2, a3, a4, a5⟩ := h.2.2.2.1 (j + 1) hj v ha.1 ha.2.1
  exact ⟨v', a1, a2, RT_TF ha.1 a2, a3, a4, a5⟩
def EF (v v' : VV) : Prop := (∀ k, k < 19 ∨ (24 < k ∧ k ≠ 27 ∧ k ≠ 28) → v'.1 k = v.1 k) ∧ (∀ k, k ≠ 3 → k ≠ 14 → k ≠ 15 → v'.2.1 k = v.2.1 k) ∧ (∀ i, i ≠ 17 → v'.2.1 3 i = v.2.1 3 i) ∧ (∀ i, i < 64 → v'.2.1 14 i = v.2.1 14 i ∧ v'.2.1 15 i = v.2.1 15 i)
theorem EF.refl (v : VV) : EF v v := ⟨fun _ _ => rfl, fun _ _ _ _ => rfl, fun _ _ => rfl, fun _ _ => ⟨rfl, rfl⟩⟩
theorem EF.trans {u v w : VV} (h : EF u v) (h' : EF v w) : EF u w := ⟨fun k hk => (h'.1 k hk).trans (h.1 k hk), fun k a b c => (h'.2.1 k a b c).trans (h.2.1 k a b c), fun i hi => (h'.2.2.1 i hi).trans (h.2.2.1 i hi), fun i hi => ⟨(h'.2.2.2 i hi).1.trans (h.2.2.2 i hi).1, (h'.2.2.2 i hi).2.trans (h.2.2.2 i hi).2⟩⟩
theorem EF_TF {v v' : VV} (h : TF v v') : EF v v' := ⟨fun k hk => h.1 k (by omega) (by omega) (by omega) (by omega), fun k _ _ _ => by rw [h.2], fun i _ => by rw [h.2], fun i _ => by rw [h.2]; exact ⟨rfl, rfl⟩⟩
theorem EF_si {v : VV} (k : Nat) (x : Int32) (hk : 19 ≤ k ∧ (k ≤ 24 ∨ k = 27 ∨ k = 28)) : EF v (si v k x) := ⟨fun q hq => by rw [pu_si1, if_neg (by omega)], fun _ _ _ _ => rfl, fun _ _ => rfl, fun _ _ => ⟨rfl, rfl⟩⟩
/-- while all is well -/
def GS (n cnt : Nat) (b : Nat → Nat) (K : VV) (E : Nat → Nat) (op j l q : Nat) (R L v : VV) : Prop := (j ≤ cnt ∧ l ≤ q ∧ q ≤ 64) ∧ AT n b K E j v ∧ R.1 2 = nI j ∧ (v.1 23 = 0 ∧ v.1 27 = nI op) ∧ (L.1 2 = nI l ∧ v.2.1 3 17 = nI l) ∧ (L.1 3 = nI q ∧ v.1 28 = nI q) ∧ ∀ i, i < l → kc (L.2.1 0 i) (L.2.1 1 i) (v.2.1 14 (64 + i)) (v.2.1 15 (64 + i))
/-- a fault, told by both -/
def FT (R v : VV) : Prop := v.1 23 = R.1 5 ∧ ¬ R.1 5 = 0 ∧ v.1 24 = R.1 6
/-- what else stays -/
def SM (l : Nat) (R L v R' L' v' : VV) : Prop := (∀ k, k ≠ 2 → k ≠ 3 → R'.1 k = R.1 k) ∧ (∀ k, k ≠ 2 → k ≠ 3 → L'.1 k = L.1 k) ∧ (∀ k, k ≠ 0 → k ≠ 1 → L'.2.1 k = L.2.1 k) ∧ (∀ i, i < l → L'.2.1 0 i = L.2.1 0 i ∧ L'.2.1 1 i = L.2.1 1 i) ∧ v'.1 24 = v.1 24 ∧ ∀ i, i < l → v'.2.1 14 (64 + i) = v.2.1 14 (64 + i) ∧ v'.2.1 15 (64 + i) = v.2.1 15 (64 + i)
theorem SM.refl (l : Nat) (R L v : VV) : SM l R L v R L v := ⟨fun _ _ _ => rfl, fun _ _ _ => rfl, fun _ _ _ => rfl, fun _ _ => ⟨rfl, rfl⟩, rfl, fun _ _ => ⟨rfl, rfl⟩⟩
theorem SM.trans {l l' : Nat} {R L v R1 L1 v1 R2 L2 v2 : VV} (h : SM l R L v R1 L1 v1) (h' : SM l' R1 L1 v1 R2 L2 v2) (hl : l ≤ l') : SM l R L v R2 L2 v2 := by
  obtain ⟨a1, a2, a3, a4, a5, a6⟩ := h
  obtain ⟨b1, b2, b3, b4, b5, b6⟩ := h'
  exact ⟨fun k x y => (b1 k x y).trans (a1 k x y), fun k x y => (b2 k x y).trans (a2 k x y), fun k x y => (b3 k x y).trans (a3 k x y), fun i hi => ⟨(b4 i (by omega)).1.trans (a4 i hi).1, (b4 i (by omega)).2.trans (a4 i hi).2⟩, b5.trans a5, fun i hi => ⟨(b6 i (by omega)).1.trans (a6 i hi).1, (b6 i (by omega)).2.trans (a6 i hi).2⟩⟩
/-- the outcome: x puts more than knots taken -/
def PO (n cnt : Nat) (b : Nat → Nat) (K : VV) (E : Nat → Nat) (op j l q x : Nat) (R L v : VV) (cr : Option (Int32 × VV × VV)) (rr : Option VV) : Prop := ∃ z R' L' v', cr = some (z, R', L') ∧ rr = some v' ∧ EF v v' ∧ ((z = 0 ∧ FT R' v') ∨ (z = 1 ∧ ∃ j' l' q', GS n cnt b K E op j' l' q' R' L' v' ∧ j < j' ∧ q < q' ∧ l' = l + (q' - q) + x ∧ SM l R L v R' L' v' ∧ ∀ d, dep (L'.2.1 0) (l' - l) l d = some (d + 1)))
def MT (n cnt : Nat) (b : Nat → Nat) (K : VV) (E : Nat → Nat) (op : Nat) (G : VV → VV → Option (Int32 × VV × VV)) (F : VV → Option VV) : Prop := (∀ j l q R L v, GS n cnt b K E op j l q R L v → PO n cnt b K E op j l q 0 R L v (G R L) (F v)) ∧ ∀ v, ¬ v.1 23 = 0 → F v = some v
theorem dep_app (Q : Nat → Int32) : ∀ a c i d, dep Q (a + c) i d = match dep Q a i d with
    | none => none
    | some e => dep Q c (i + a) e := by
  intro a
  induction a with
  | zero => intro c i d; rw [Nat.zero_add]; rfl
  | succ a ih =>
    intro c i d
    rw [show a + 1 + c = (a + c) + 1 by omega]
    show (if kn (Q i) ≤ d then dep Q (a + c) (i + 1) (d - kn (Q i) + 1) else none) = match (if kn (Q i) ≤ d then dep Q a (i + 1) (d - kn (Q i) + 1) else none) with
      | none => none
      | some e => dep Q c (i + (a + 1)) e
    by_cases h : kn (Q i) ≤ d
    · rw [if_pos h, if_pos h, ih, show i + 1 + a = i + (a + 1) by omega]
    · rw [if_neg h, if_neg h]
theorem dep_c {Q Q' : Nat → Int32} : ∀ a i d, (∀ x, i ≤ x → x < i + a → Q' x = Q x) → dep Q' a i d = dep Q a i d := by
  intro a
  induction a with
  | zero => intro i d _; rfl
  | succ a ih =>
    intro i d h
    show (if kn (Q' i) ≤ d then dep Q' a (i + 1) (d - kn (Q' i) + 1) else none) = if kn (Q i) ≤ d then dep Q a (i + 1) (d - kn (Q i) + 1) else none
    rw [h i (Nat.le_refl i) (by omega), ih (i + 1) _ (fun x h1 h2 => h x (by omega) (by omega))]
theorem kn_kb {k w : Int32} (h : kb k w) : kn k = 2 := by
  unfold kb at h
  rcases h with h | h | h | h | h | h | h | h | h | h | h | h <;> (rw [h.1]; decide)
theorem kindR (h : TKS N n cnt b K E) {R : VV} {j : Nat} (hR : R.1 2 = nI j) (hj : j ≤ cnt) : f_X7_kind R K = some (K.2.1 0 j) ∧ f_X7_value R K = some (K.2.1 2 j) ∧ ∀ a, f_X7_refuse R K a = some (0, si (si R 5 a) 6 (K.2.1 1 j)) := by
  have h7 := h.2.1
  have e3 := h.2.2.1
  refine ⟨?_, ?_, fun a => ?_⟩
  · unfold f_X7_kind; rw [hR, if_neg (nI_pos (show j < 2 ^ 31 by omega)), e3, if_neg (nI_ge (show j < cnt + 1 by omega) (by omega)), pu_gin (show j < 701 by omega) (show 701 < 2 ^ 31 by omega), nI_clamp (show j < 2 ^ 31 by omega)]
  · unfold f_X7_value; rw [hR, if_neg (nI_pos (show j < 2 ^ 31 by omega)), e3, if_neg (nI_ge (show j < cnt + 1 by omega) (by omega)), pu_gin (show j < 701 by omega) (show 701 < 2 ^ 31 by omega), nI_clamp (show j < 2 ^ 31 by omega)]
  · unfold f_X7_refuse f_X7_refuse_b43; rw [hR, if_neg (nI_pos (show j < 2 ^ 31 by omega)), e3, if_neg (nI_ge (show j < cnt + 1 by omega) (by omega)), pu_gin (show j < 701 by omega) (show 701 < 2 ^ 31 by omega), nI_clamp (show j < 2 ^ 31 by omega)]
theorem wrongR {v : VV} (h : v.1 23 = 0) (a : Int32) : f_X12_wrong v a = some (si (si v 23 a) 24 (v.1 20)) := by unfold f_X12_wrong; rw [if_pos h]
/-- refused, and wrong -/
theorem refR (h : TKS N n cnt b K E) {op j l q : Nat} {R L v : VV} (hg : GS n cnt b K E op j l q R L v) (a : Int32) (ha : ¬ a = 0) : FT (si (si R 5 a) 6 (K.2.1 1 j)) (si (si v 23 a) 24 (v.1 20)) ∧ EF v (si (si v 23 a) 24 (v.1 20)) ∧ ¬ (si (si v 23 a) 24 (v.1 20)).1 23 = 0 := by
  refine ⟨⟨rfl, ha, ?_⟩, (EF_si 23 a (by omega)).trans (EF_si 24 _ (by omega)), ha⟩
  exact hg.2.1.2.2.1
theorem knot_f {v : VV} (h : ¬ v.1 23 = 0) : f_X12_knot v = some v := by unfold f_X12_knot; rw [if_neg h]
theorem goOn_f {v : VV} (h : ¬ v.1 23 = 0) : f_X12_goOn N v = some v := by unfold f_X12_goOn; rw [if_neg h]
theorem puts_f {v : VV} (h : ¬ v.1 23 = 0) (a c : Int32) : f_X12_puts v a c = some v := by unfold f_X12_puts; rw [if_neg h]
/-- a knot is taken -/
theorem knotR (h : TKS N n cnt b K E) {op j l q : Nat} {R L v : VV} (P : VV) (hg : GS n cnt b K E op j l q R L v) :
    (q < 64 ∧ f_X7_takeKnot R K P L = some (1, si R 2 (nI (j + 1)), si L 3 (nI (q + 1))) ∧ f_X12_knot v = some (si v 28 (nI (q + 1)))) ∨ (q = 64 ∧ ∃ R' v', f_X7_takeKnot R K P L = some (0, R', L) ∧ f_X12_knot v = some v' ∧ FT R' v' ∧ EF v v' ∧ ¬ v'.1 23 = 0) := by
  obtain ⟨⟨g1, g2, g3⟩, g4, g5, ⟨g6, g7⟩, g8, ⟨g9, g10⟩, g11⟩ := id hg
  unfold f_X7_takeKnot f_X12_knot
  rw [g9, g6, if_pos rfl, g10, g5, nI_1, nI_1]
  rcases Nat.lt_or_ge q 64 with hlt | hge
  · left
    rw [if_pos (show nI (q) < (64 : Int32) from nI_lt (a := q) (b := 64) (by omega) (by omega)), if_neg (show ¬ nI (q) = (64 : Int32) from fun hq9 => absurd ((nI_eq (a := q) (b := 64) (by omega) (by omega)).mp hq9) (by omega))]
    exact ⟨hlt, rfl, rfl⟩
  · right
    have : q = 64 := by omega
    subst this
    obtain ⟨r1, r2, r3⟩ := refR h hg 2 (by decide)
    refine ⟨rfl, _, _, ?_, ?_, r1, r2, r3⟩
    · rw [if_neg (show ¬ nI 64 < 64 by decide), (kindR h g5 g1).2.2 2, pu_bnd]; rfl
    · rw [if_pos (show nI 64 = 64 from rfl), wrongR g6, pu_bnd]
/-- knot and the next token -/
theorem opR (h : TKS N n cnt b K E) {op j l q : Nat} {R L v : VV} (P : VV) (hg : GS n cnt b K E op j l q R L v) (hj : j < cnt) :
    (∃ v2, q < 64 ∧ f_X7_takeKnot R K P L = some (1, si R 2 (nI (j + 1)), si L 3 (nI (q + 1))) ∧ bnd (f_X12_knot v) (fun a => f_X12_goOn N a) = some v2 ∧ GS n cnt b K E op (j + 1) l (q + 1) (si R 2 (nI (j + 1))) (si L 3 (nI (q + 1))) v2 ∧ EF v v2 ∧ SM l R L v (si R 2 (nI (j + 1))) (si L 3 (nI (q + 1))) v2) ∨ (∃ R' v', f_X7_takeKnot R K P L = some (0, R', L) ∧ bnd (f_X12_knot v) (fun a => f_X12_goOn N a) = some v' ∧ FT R' v' ∧ EF v v' ∧ ¬ v'.1 23 = 0) := by
  rcases knotR h P hg with ⟨k1, k2, k3⟩ | ⟨k1, R', v', k2, k3, k4, k5, k6⟩
  · left
    obtain ⟨⟨g1, g2, g3⟩, g4, g5, ⟨g6, g7⟩, ⟨g8, g8'⟩, ⟨g9, g10⟩, g11⟩ := hg
    have ha : AT n b K E j (si v 28 (nI (q + 1))) := g4
    obtain ⟨v2, a1, a2, a3⟩ := AT_next h ha hj
    have hgo : f_X12_goOn N (si v 28 (nI (q + 1))) = some v2 := by
      unfold f_X12_goOn
      rw [if_pos (show (si v 28 (nI (q + 1))).1 23 = 0 from g6), a1, pu_bnd]
    refine ⟨v2, k1, k2, by rw [k3, pu_bnd, hgo], ⟨⟨hj, by omega, by omega⟩, a3, rfl, ⟨(a2.1 23 (by omega) (by omega) (by omega) (by omega)).trans g6, (a2.1 27 (by omega) (by omega) (by omega) (by omega)).trans g7⟩, ⟨g8, by rw [a2.2]; exact g8'⟩, ⟨rfl, a2.1 28 (by omega) (by omega) (by omega) (by omega)⟩, fun i hi => by rw [a2.2]; exact g11 i hi⟩, (EF_si 28 _ (by omega)).trans (EF_TF a2), fun k x y => by rw [pu_si1, if_neg x], fun k x y => by rw [pu_si1, if_neg y], fun _ _ _ => rfl, fun _ _ => ⟨rfl, rfl⟩, a2.1 24 (by omega) (by omega) (by omega) (by omega), fun i _ => by rw [a2.2]; exact ⟨rfl, rfl⟩⟩
  · right
    exact ⟨R', v', k2, by rw [k3, pu_bnd, goOn_f k6], k4, k5, k6⟩
/-- a knot is put -/
theorem putsR {op j l q : Nat} {R L v : VV} (hg : GS n cnt b K E op j l q R L v) (hl : l < q) {k vl s w : Int32} (hk : kc k vl s w) :
    ∃ L' v', f_X3_put L k vl = some L' ∧ f_X12_puts v s w = some v' ∧ GS n cnt b K E op j (l + 1) q R L' v' ∧ EF v v' ∧ SM l R L v R L' v' ∧ L'.2.1 0 l = k ∧ TF v (v'.1, v.2) := by
  obtain ⟨⟨g1, g2, g3⟩, g4, g5, ⟨g6, g7⟩, ⟨g8, g8'⟩, ⟨g9, g10⟩, g11⟩ := hg
  have e17 : (9 : Int32) + 8 = nI 17 := rfl
  have fr : ∀ w : VV, f_X12_fresher w 8 = some (w.2.1 3 17) := fun w => by
    unfold f_X12_fresher; rw [e17, pu_gin (show 17 < 18 by omega) (show 18 < 2 ^ 31 by omega), nI_clamp (show 17 < 2 ^ 31 by omega)]
  refine ⟨si (sr (sr L 0 l k) 1 l vl) 2 (nI (l + 1)), sr (sr (sr v 14 (64 + l) s) 15 (64 + l) w) 3 17 (nI (l + 1)), ?_, ?_, ⟨⟨g1, by omega, g3⟩, g4, g5, ⟨g6, g7⟩, ⟨rfl, pk_us (f := v.2.1 3) (k := 17) (x := nI (l + 1))⟩, ⟨g9, g10⟩, fun i hi => ?_⟩, ⟨fun _ _ => rfl, fun q a b c => ?_, fun i hi => ?_, fun i hi => ⟨?_, ?_⟩⟩, ⟨fun _ _ _ => rfl, fun q a b => ?_, fun q a b => ?_, fun i hi => ⟨pk_un (by omega), pk_un (by omega)⟩, rfl, fun i hi => ⟨pk_un (by omega), pk_un (by omega)⟩⟩, pk_us, TF.refl _⟩
  · unfold f_X3_put
    rw [g8, if_neg (show ¬ (64 : Int32) ≤ nI (l) from nI_ge (a := l) (b := 64) (by omega) (by omega)), pu_gin (show l < 64 by omega) (show 64 < 2 ^ 31 by omega), nI_clamp (show l < 2 ^ 31 by omega), pu_gin (show l < 64 by omega) (show 64 < 2 ^ 31 by omega), nI_1]
  · unfold f_X12_puts f_X12_reads
    have e64 : (64 : Int32) + nI l = nI (64 + l) := nI_add 64 l
    have r1 : (sr v 14 (64 + l) s).2.1 3 17 = nI l := g8'
    have r2 : (sr (sr v 14 (64 + l) s) 15 (64 + l) w).2.1 3 17 = nI l := g8'
    simp only [if_pos g6, fr, pu_bnd, g8', e64, pu_gin (show 64 + l < 128 by omega) (show 128 < 2 ^ 31 by omega), nI_clamp (show 64 + l < 2 ^ 31 by omega), r1, r2, e17, pu_gin (show 17 < 18 by omega) (show 18 < 2 ^ 31 by omega), nI_clamp (show 17 < 2 ^ 31 by omega), nI_1]
  · show kc (upd (L.2.1 0) l k i) (upd (L.2.1 1) l vl i) (upd (v.2.1 14) (64 + l) s (64 + i)) (upd (v.2.1 15) (64 + l) w (64 + i))
    by_cases e : i = l
    · subst e; rw [pk_us, pk_us, pk_us, pk_us]; exact hk
    · rw [pk_un e, pk_un e, pk_un (by omega), pk_un (by omega)]; exact g11 i (by omega)
  · rw [pu_sr2, if_neg a, pu_sr2, if_neg c, pu_sr2, if_neg b]
  · show upd (v.2.1 3) 17 (nI (l + 1)) i = v.2.1 3 i
    rw [pk_un hi]
  · show upd (v.2.1 14) (64 + l) s i = _
    rw [pk_un (by omega)]
  · show upd (v.2.1 15) (64 + l) w i = _
    rw [pk_un (by omega)]
  · show (if q = 2 then _ else L.1 q) = L.1 q
    rw [if_neg a]
  · show (sr (sr L 0 l k) 1 l vl).2.1 q = _
    rw [pu_sr2, if_neg b, pu_sr2, if_neg a]
/-- a sign and what is behind it -/
theorem iterR (h : TKS N n cnt b K E) {op : Nat} {G : VV → VV → Option (Int32 × VV × VV)} {F : VV → Option VV} (P : VV) (hM : MT n cnt b K E op G F) {j l q : Nat} {R L v : VV} (hg : GS n cnt b K E op j l q R L v) (hj : j < cnt) {k w : Int32} (hk : kb k w) :
    ∃ (z : Int32) (R' L' v' : VV), bnd (f_X7_takeKnot R K P L) (fun t => if t.1 = 0 then some ((0 : Int32), t.2.1, t.2.2) else bnd (G t.2.1 t.2.2) (fun u => if u.1 = 0 then some (0, u.2.1, u.2.2) else bnd (f_X3_put u.2.2 k 0) (fun y => some (1, u.2.1, y)))) = some (z, R', L') ∧ bnd (f_X12_knot v) (fun a => bnd (f_X12_goOn N a) (fun c => bnd (F c) (fun e => f_X12_puts e 2 w))) = some v' ∧ EF v v' ∧ ((z = 0 ∧ FT R' v') ∨ (z = 1 ∧ ∃ j' l' q', GS n cnt b K E op j' l' q' R' L' v' ∧ j < j' ∧ q + 1 < q' ∧ l' = l + (q' - q) ∧ SM l R L v R' L' v' ∧ ∀ d, 1 ≤ d → dep (L'.2.1 0) (l' - l) l d = some d)) := by
  have asc : bnd (f_X12_knot v) (fun a => bnd (f_X12_goOn N a) (fun c => bnd (F c) (fun e => f_X12_puts e 2 w))) = bnd (bnd (f_X12_knot v) (fun a => f_X12_goOn N a)) (fun c => bnd (F c) (fun e => f_X12_puts e 2 w)) := by
    cases f_X12_knot v with
    | none => rfl
    | some a => rfl
  rw [asc]
  rcases opR h P hg hj with ⟨v2, o1, o2, o3, o4, o5, o6⟩ | ⟨R', v', o2, o3, o4, o5, o6⟩
  · rw [o2, pu_bnd, o3, pu_bnd, if_neg (by show ¬ (1 : Int32) = 0; decide)]
    obtain ⟨z, R', L', v', p1, p2, p3, p4⟩ := hM.1 _ _ _ _ _ _ o4
    dsimp only
    rw [p1, pu_bnd, p2, pu_bnd]
    rcases p4 with ⟨rfl, p5⟩ | ⟨rfl, j', l', q', p5, p6, p7, p8, p9, p10⟩
    · have hf : ¬ v'.1 23 = 0 := by rw [p5.1]; exact p5.2.1
      rw [if_pos rfl, puts_f hf]
      exact ⟨0, R', L', v', rfl, rfl, o5.trans p3, Or.inl ⟨rfl, p5⟩⟩
    · rw [if_neg (by show ¬ (1 : Int32) = 0; decide)]
      obtain ⟨L2, v3, s1, s2, s3, s4, s5, s6, s7⟩ := putsR p5 (by have := hg.1.2.1; omega) (k := k) (vl := 0) (s := 2) (w := w) (Or.inr (Or.inr (Or.inr ⟨rfl, hk⟩)))
      dsimp only
      rw [s1, pu_bnd, s2]
      refine ⟨1, R', L2, v3, rfl, rfl, (o5.trans p3).trans s4, Or.inr ⟨rfl, j', l' + 1, q', s3, by omega, by omega, by omega, (o6.trans p9 (Nat.le_refl l)).trans s5 (by omega), fun d hd => ?_⟩⟩
      rw [show l' + 1 - l = (l' - l) + 1 by omega, dep_app, dep_c (Q := L'.2.1 0) (l' - l) l d (fun x h1 h2 => (s5.2.2.2.1 x (by omega)).1), p10 d]
      show (if kn (L2.2.1 0 (l + (l' - l))) ≤ d + 1 then some (d + 1 - kn (L2.2.1 0 (l + (l' - l))) + 1) else none) = some d
      rw [show l + (l' - l) = l' by omega, s6, kn_kb hk, if_pos (by omega)]
      congr 1; omega
  · have hf := o6
    rw [o2, pu_bnd, o3, pu_bnd, if_pos rfl, hM.2 v' hf, pu_bnd, puts_f hf]
    exact ⟨0, R', L, v', rfl, rfl, o5, Or.inl ⟨rfl, o4⟩⟩
