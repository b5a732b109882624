/-! Worlds of several components: a list of lists of cells. -/
def wj (cs : List va_W) : va_W := cs.flatten
def off : List va_W → Nat → Nat
  | _, 0 => 0
  | [], _ + 1 => 0
  | c :: cs, i + 1 => c.length + off cs i
theorem wj_get {q : Nat × va_E} : ∀ {cs : List va_W} {i k : Nat} {c : va_W}, cs[i]? = some c → c[k]? = some q → (wj cs)[off cs i + k]? = some q
  | [], i, k, c, hi, _ => by simp at hi
  | a :: cs, 0, k, c, hi, hk => by
    have e : a = c := by simpa using hi
    subst e
    have hl : k < a.length := (List.getElem?_eq_some_iff.mp hk).1
    show (a ++ wj cs)[0 + k]? = some q
    rw [Nat.zero_add, List.getElem?_append_left hl]
    exact hk
  | a :: cs, i + 1, k, c, hi, hk => by
    have h := wj_get (cs := cs) (i := i) (by simpa using hi) hk
    show (a ++ wj cs)[a.length + off cs i + k]? = some q
    rw [Nat.add_assoc, List.getElem?_append_right (Nat.le_add_right _ _), Nat.add_sub_cancel_left]
    exact h
theorem wj_set {e : Nat × va_E} : ∀ {cs : List va_W} {i k : Nat} {c : va_W}, cs[i]? = some c → k < c.length → (wj cs).set (off cs i + k) e = wj (cs.set i (c.set k e))
  | [], i, k, c, hi, _ => by simp at hi
  | a :: cs, 0, k, c, hi, hk => by
    have e9 : a = c := by simpa using hi
    subst e9
    show (a ++ wj cs).set (0 + k) e = a.set k e ++ wj cs
    rw [Nat.zero_add, List.set_append_left _ _ hk]
  | a :: cs, i + 1, k, c, hi, hk => by
    have h := wj_set (e := e) (cs := cs) (i := i) (by simpa using hi) hk
    show (a ++ wj cs).set (a.length + off cs i + k) e = a ++ wj (cs.set i (c.set k e))
    rw [Nat.add_assoc, List.set_append_right _ _ (Nat.le_add_right _ _), Nat.add_sub_cancel_left, h]
theorem wj_ix {q : Nat × va_E} : ∀ {cs : List va_W} {n : Nat}, (wj cs)[n]? = some q → ∃ (i k : Nat) (c : va_W), cs[i]? = some c ∧ c[k]? = some q ∧ n = off cs i + k
  | [], n, h => by simp [wj] at h
  | a :: cs, n, h => by
    have h : (a ++ wj cs)[n]? = some q := h
    by_cases hn : n < a.length
    · rw [List.getElem?_append_left hn] at h
      exact ⟨0, n, a, rfl, h, by simp [off]⟩
    · rw [List.getElem?_append_right (Nat.le_of_not_lt hn)] at h
      obtain ⟨i, k, c, h1, h2, h3⟩ := wj_ix (cs := cs) h
      exact ⟨i + 1, k, c, by simpa using h1, h2, by simp only [off]; omega⟩
theorem off_inj : ∀ {cs : List va_W} {i j k k' : Nat} {c c' : va_W}, cs[i]? = some c → cs[j]? = some c' → k < c.length → k' < c'.length → off cs i + k = off cs j + k' → i = j ∧ k = k'
  | [], i, j, k, k', c, c', hi, _, _, _, _ => by simp at hi
  | a :: cs, 0, 0, k, k', c, c', _, _, _, _, h => by simp only [off] at h; exact ⟨rfl, by omega⟩
  | a :: cs, 0, j + 1, k, k', c, c', hi, _, hk, _, h => by
    have e9 : a = c := by simpa using hi
    subst e9
    simp only [off] at h; omega
  | a :: cs, i + 1, 0, k, k', c, c', _, hj, _, hk, h => by
    have e9 : a = c' := by simpa using hj
    subst e9
    simp only [off] at h; omega
  | a :: cs, i + 1, j + 1, k, k', c, c', hi, hj, hk, hk', h => by
    have h9 := off_inj (cs := cs) (i := i) (j := j) (by simpa using hi) (by simpa using hj) hk hk' (by simp only [off] at h; omega)
    exact ⟨by rw [h9.1], h9.2⟩
theorem wj_P {G : va_G} {cl : List vw_C} {cs : List va_W} {H : Heap} : va_P G cl (wj cs) H ↔ ∀ (i : Nat) (c : va_W), cs[i]? = some c → va_P G cl c H := by
  constructor
  · intro h i c hi k q hk
    exact h _ q (wj_get hi hk)
  · intro h n q hn
    obtain ⟨i, k, c, h1, h2, -⟩ := wj_ix hn
    exact h i c h1 k q h2
/-- the addresses of components differ -/
theorem wj_D {A : Nat → Prop} {cs : List va_W} : va_D A (wj cs) ↔ (∀ (i j k k' : Nat) (c c' : va_W) (p q : Nat × va_E), cs[i]? = some c → cs[j]? = some c' → c[k]? = some p → c'[k']? = some q → p.1 = q.1 → i = j ∧ k = k') ∧ ∀ (i k : Nat) (c : va_W) (q : Nat × va_E), cs[i]? = some c → c[k]? = some q → A q.1 := by
  constructor
  · intro h
    refine ⟨fun i j k k' c c' p q hi hj hk hk' e => ?_, fun i k c q hi hk => h.2 _ q (wj_get hi hk)⟩
    have := h.1 _ _ p q (wj_get hi hk) (wj_get hj hk') e
    exact off_inj hi hj (List.getElem?_eq_some_iff.mp hk).1 (List.getElem?_eq_some_iff.mp hk').1 this
  · intro h
    refine ⟨fun n n' p q hn hn' e => ?_, fun n q hn => ?_⟩
    · obtain ⟨i, k, c, h1, h2, h3⟩ := wj_ix hn
      obtain ⟨j, k', c', g1, g2, g3⟩ := wj_ix hn'
      obtain ⟨e1, e2⟩ := h.1 i j k k' c c' p q h1 g1 h2 g2 e
      rw [h3, g3, e1, e2]
    · obtain ⟨i, k, c, h1, h2, -⟩ := wj_ix hn
      exact h.2 i k c q h1 h2
theorem sel_at {α : Type} {cs ccs : List α} {isC : List Nat} (hC : isC.map (fun i => cs[i]?) = ccs.map some) {a : Nat} {c : α} (h : ccs[a]? = some c) : ∃ i, isC[a]? = some i ∧ cs[i]? = some c := by
  have h1 : (isC.map (fun i => cs[i]?))[a]? = some (some c) := by rw [hC, List.getElem?_map, h]; rfl
  rw [List.getElem?_map] at h1
  cases hi : isC[a]? with
  | none => rw [hi] at h1; cases h1
  | some i => rw [hi] at h1; exact ⟨i, rfl, Option.some.inj h1⟩
theorem sel_of {α : Type} {cs ccs : List α} {isC : List Nat} (hC : isC.map (fun i => cs[i]?) = ccs.map some) {a i : Nat} (h : isC[a]? = some i) : ∃ c, ccs[a]? = some c ∧ cs[i]? = some c := by
  have h1 : (ccs.map some)[a]? = some (cs[i]?) := by rw [← hC, List.getElem?_map, h]; rfl
  rw [List.getElem?_map] at h1
  cases hc : ccs[a]? with
  | none => rw [hc] at h1; cases h1
  | some c => rw [hc] at h1; exact ⟨c, rfl, (Option.some.inj h1).symm⟩
/-- the callee's components out of the caller's -/
theorem sel_P {G : va_G} {cl : List vw_C} {cs ccs : List va_W} {isC : List Nat} {H : Heap} (hC : isC.map (fun i => cs[i]?) = ccs.map some) (hP : va_P G cl (wj cs) H) : va_P G cl (wj ccs) H :=
  wj_P.mpr fun a c ha => by
    obtain ⟨i, -, h⟩ := sel_at hC ha
    exact wj_P.mp hP i c h
theorem sel_D {A : Nat → Prop} {cs ccs : List va_W} {isC : List Nat} (hC : isC.map (fun i => cs[i]?) = ccs.map some) (hn : va_nd isC = true) (hD : va_D A (wj cs)) : va_D A (wj ccs) := by
  obtain ⟨h1, h2⟩ := wj_D.mp hD
  refine wj_D.mpr ⟨fun a b k k' c c' p q ha hb hk hk' e => ?_, fun a k c q ha hk => ?_⟩
  · obtain ⟨i, g1, g2⟩ := sel_at hC ha
    obtain ⟨j, g3, g4⟩ := sel_at hC hb
    obtain ⟨e1, e2⟩ := h1 i j k k' c c' p q g2 g4 hk hk' e
    subst e1
    exact ⟨va_nd_inj isC hn a b i g1 g3, e2⟩
  · obtain ⟨i, -, g2⟩ := sel_at hC ha
    exact h2 i k c q g2 hk
theorem sel_F {A : Nat → Prop} {cs ccs : List va_W} {isC : List Nat} {H0 H : Heap} {locs : List Loc} (hC : isC.map (fun i => cs[i]?) = ccs.map some) (hD : va_D A (wj cs)) (hS : va_S A H0 H locs) (hA : ∀ q : Nat, H0.size ≤ q → A q) : ∀ q, va_A (wj ccs) H.size q → A q := by
  intro q h
  rcases h with ⟨n, e, h⟩ | h
  · obtain ⟨a, k, c, h1, h2, -⟩ := wj_ix h
    obtain ⟨i, -, g⟩ := sel_at hC h1
    exact (wj_D.mp hD).2 i k c (q, e) g h2
  · exact hA q (Nat.le_trans hS.1 h)
/-- behind a call: the other components as they were, the callee's as they came -/
theorem sel_join {A : Nat → Prop} {G : va_G} {cl : List vw_C} {cs ccs ccs' cs' : List va_W} {isC isR : List Nat} {H H1 : Heap} (hP : va_P G cl (wj cs) H) (hD : va_D A (wj cs)) (hC : isC.map (fun i => cs[i]?) = ccs.map some) (hC' : isC.map (fun i => cs'[i]?) = ccs'.map some) (hR : isR.map (fun i => cs'[i]?) = isR.map (fun i => cs[i]?)) (hcov : ∀ i, i < cs'.length → i ∈ isC ∨ i ∈ isR) (hdis : ∀ i ∈ isR, i ∉ isC) (hn : va_nd isC = true)
    (hk : ∀ q : Nat, q < H.size → ¬ va_A (wj ccs) H.size q → H1[q]? = H[q]?) (hF : ∀ q, va_A (wj ccs) H.size q → A q) (hP1 : va_P G cl (wj ccs') H1) (hD1 : va_D (va_A (wj ccs) H.size) (wj ccs')) : va_P G cl (wj cs') H1 ∧ va_D A (wj cs') := by
  obtain ⟨d1, d2⟩ := wj_D.mp hD
  obtain ⟨f1, f2⟩ := wj_D.mp hD1
  have old : ∀ i ∈ isR, cs'[i]? = cs[i]? := by
    intro i hi
    obtain ⟨a, ha⟩ := List.mem_iff_getElem?.mp hi
    have h1 : (isR.map (fun i => cs'[i]?))[a]? = (isR.map (fun i => cs[i]?))[a]? := by rw [hR]
    rw [List.getElem?_map, List.getElem?_map, ha] at h1
    exact Option.some.inj h1
  have kind : ∀ (i : Nat) (c : va_W), cs'[i]? = some c → (∃ a : Nat, isC[a]? = some i ∧ ccs'[a]? = some c) ∨ (i ∈ isR ∧ cs[i]? = some c) := by
    intro i c hi
    rcases hcov i (List.getElem?_eq_some_iff.mp hi).1 with h | h
    · obtain ⟨a, ha⟩ := List.mem_iff_getElem?.mp h
      obtain ⟨c2, g1, g2⟩ := sel_of hC' ha
      rw [hi] at g2
      cases g2
      exact Or.inl ⟨a, ha, g1⟩
    · exact Or.inr ⟨h, by rw [← old i h]; exact hi⟩
  have apart : ∀ (i k : Nat) (c : va_W) (q : Nat × va_E), i ∈ isR → cs[i]? = some c → c[k]? = some q → q.1 < H.size ∧ ¬ va_A (wj ccs) H.size q.1 := by
    intro i k c q hi hc hq
    have hl := (wj_P.mp hP i c hc k q hq).lt
    refine ⟨hl, fun h => ?_⟩
    rcases h with ⟨n, e, h⟩ | h
    · obtain ⟨a, k2, c2, h1, h2, -⟩ := wj_ix h
      obtain ⟨j, g1, g2⟩ := sel_at hC h1
      obtain ⟨e1, -⟩ := d1 i j k k2 c c2 q (q.1, e) hc g2 hq h2 rfl
      subst e1
      exact hdis i hi (List.mem_iff_getElem?.mpr ⟨a, g1⟩)
    · omega
  refine ⟨wj_P.mpr fun i c hi => ?_, wj_D.mpr ⟨fun i j k k' c c' p q hi hj hk1 hk2 e => ?_, fun i k c q hi hk1 => ?_⟩⟩
  · rcases kind i c hi with ⟨a, -, g⟩ | ⟨g1, g2⟩
    · exact wj_P.mp hP1 a c g
    · exact (wj_P.mp hP i c g2).kept (fun k q hq => by
        obtain ⟨a1, a2⟩ := apart i k c q g1 g2 hq
        exact hk q.1 a1 a2)
  · rcases kind i c hi with ⟨a, a1, a2⟩ | ⟨a1, a2⟩ <;> rcases kind j c' hj with ⟨b, b1, b2⟩ | ⟨b1, b2⟩
    · obtain ⟨e1, e2⟩ := f1 a b k k' c c' p q a2 b2 hk1 hk2 e
      subst e1
      rw [a1] at b1
      exact ⟨Option.some.inj b1, e2⟩
    · exact absurd (by rw [← e]; exact f2 a k c p a2 hk1) (apart j k' c' q b1 b2 hk2).2
    · exact absurd (by rw [e]; exact f2 b k' c' q b2 hk2) (apart i k c p a1 a2 hk1).2
    · exact d1 i j k k' c c' p q a2 b2 hk1 hk2 e
  · rcases kind i c hi with ⟨a, -, g⟩ | ⟨g1, g2⟩
    · exact hF q.1 (f2 a k c q g hk1)
    · exact d2 i k c q g2 hk1
section WJC
variable {p : Program} {l : Launch} {e : Env} {R : Room} {s : State} {m : MethodId} {args : Array Value} {below : List Frame} {meth : Method} {c : Code} {H : Heap} {locs : List Loc} {Q : State → Prop}
variable {cc : ByteArray} {pc nL : Nat} {ls : Array Slot} {rest st : List Value} {A : Nat → Prop} {G : va_G} {cy : Nat → ClassId} {ev : Nat → Nat} {cs cs' : List va_W} {ci k0 : Nat} {cc0 cc1 : va_W} {a : Nat}
theorem ldWI {n : Nat} {f g : Nat → Int32} {i : Int32} {j : Nat} (hx : p.tables.exec = Jvm.exec) (hb : c.code = cc) (hK : va_K G vwCl (tysX cy) s) (hP : va_P G vwCl (wj cs) H) (hi : cs[ci]? = some cc0) (he : cc0[k0]? = some (a, .inl (cy 1, n, .inl f))) (hf : f = g) (hin : vp_in i n) (hj : i.toNatClampNeg = j) (hdg : decode cc pc = .ok (.iaload, 1)) (kk : W p l e R s m args below meth c H locs 0 0 Q (F0 m (pc + 1) ls (.int (g j) :: rest))) : W p l e R s m args below meth c H locs 0 0 Q (F0 m pc ls (.int i :: .ref a :: rest)) := by
  subst hf
  subst hj
  exact va_iald hx hb hK hP _ 1 (wj_get hi he) rfl hin hdg kk
theorem stWI {n : Nat} {f : Nat → Int32} {x : Int32} {i : Int32} {j : Nat} (hx : p.tables.exec = Jvm.exec) (hb : c.code = cc) (hK : va_K G vwCl (tysX cy) s) (hP : va_P G vwCl (wj cs) H) (hD : va_D A (wj cs)) (hS : va_S A s.heap H locs) (hi : cs[ci]? = some cc0) (he : cc0[k0]? = some (a, .inl (cy 1, n, .inl f))) (hin : vp_in i n) (hj : i.toNatClampNeg = j) (hw : cc0.set k0 (a, .inl (cy 1, n, .inl (upd f j x))) = cc1) (hcs : cs.set ci cc1 = cs') (hdg : decode cc pc = .ok (.iastore, 1)) (kk : ∀ (H1 : Heap) (locs1 : List Loc), va_P G vwCl (wj cs') H1 → va_D A (wj cs') → va_S A s.heap H1 locs1 → W p l e R s m args below meth c H1 locs1 0 0 Q (F0 m (pc + 1) ls rest)) : W p l e R s m args below meth c H locs 0 0 Q (F0 m pc ls (.int x :: .int i :: .ref a :: rest)) := by
  subst hj
  subst hw
  subst hcs
  refine va_iast hx hb hK hP hD hS _ 1 (wj_get hi he) rfl hin hdg ?_
  rw [wj_set hi (List.getElem?_eq_some_iff.mp he).1]
  exact kk
theorem ldWZ {n : Nat} {f g : Nat → Int32} {i : Int32} {j : Nat} (hx : p.tables.exec = Jvm.exec) (hb : c.code = cc) (hK : va_K G vwCl (tysX cy) s) (hP : va_P G vwCl (wj cs) H) (hi : cs[ci]? = some cc0) (he : cc0[k0]? = some (a, .inl (cy 3, n, .inl f))) (hf : f = g) (hin : vp_in i n) (hj : i.toNatClampNeg = j) (hdg : decode cc pc = .ok (.baload, 1)) (kk : W p l e R s m args below meth c H locs 0 0 Q (F0 m (pc + 1) ls (.int (g j) :: rest))) : W p l e R s m args below meth c H locs 0 0 Q (F0 m pc ls (.int i :: .ref a :: rest)) := by
  subst hf
  subst hj
  exact va_zald hx hb hK hP _ 3 (wj_get hi he) rfl hin hdg kk
theorem stWZ {n : Nat} {f : Nat → Int32} {x : Int32} {i : Int32} {j : Nat} (hx : p.tables.exec = Jvm.exec) (hb : c.code = cc) (hK : va_K G vwCl (tysX cy) s) (hP : va_P G vwCl (wj cs) H) (hD : va_D A (wj cs)) (hS : va_S A s.heap H locs) (hi : cs[ci]? = some cc0) (he : cc0[k0]? = some (a, .inl (cy 3, n, .inl f))) (hin : vp_in i n) (hz : x = 0 ∨ x = 1) (hj : i.toNatClampNeg = j) (hw : cc0.set k0 (a, .inl (cy 3, n, .inl (upd f j x))) = cc1) (hcs : cs.set ci cc1 = cs') (hdg : decode cc pc = .ok (.bastore, 1)) (kk : ∀ (H1 : Heap) (locs1 : List Loc), va_P G vwCl (wj cs') H1 → va_D A (wj cs') → va_S A s.heap H1 locs1 → W p l e R s m args below meth c H1 locs1 0 0 Q (F0 m (pc + 1) ls rest)) : W p l e R s m args below meth c H locs 0 0 Q (F0 m pc ls (.int x :: .int i :: .ref a :: rest)) := by
  subst hj
  subst hw
  subst hcs
  refine va_zast hx hb hK hP hD hS _ 3 (wj_get hi he) rfl hin hdg ?_
  rw [(narZ hz).2.2]
  rw [wj_set hi (List.getElem?_eq_some_iff.mp he).1]
  exact kk
theorem ldWB {n : Nat} {f g : Nat → Int32} {i : Int32} {j : Nat} (hx : p.tables.exec = Jvm.exec) (hb : c.code = cc) (hK : va_K G vwCl (tysX cy) s) (hP : va_P G vwCl (wj cs) H) (hi : cs[ci]? = some cc0) (he : cc0[k0]? = some (a, .inl (cy 0, n, .inl f))) (hf : f = g) (hin : vp_in i n) (hj : i.toNatClampNeg = j) (hdg : decode cc pc = .ok (.baload, 1)) (kk : W p l e R s m args below meth c H locs 0 0 Q (F0 m (pc + 1) ls (.int (g j) :: rest))) : W p l e R s m args below meth c H locs 0 0 Q (F0 m pc ls (.int i :: .ref a :: rest)) := by
  subst hf
  subst hj
  exact va_bald hx hb hK hP _ 0 (wj_get hi he) rfl hin hdg kk
theorem stWB {n : Nat} {f : Nat → Int32} {x : Int32} {i : Int32} {j : Nat} (hx : p.tables.exec = Jvm.exec) (hb : c.code = cc) (hK : va_K G vwCl (tysX cy) s) (hP : va_P G vwCl (wj cs) H) (hD : va_D A (wj cs)) (hS : va_S A s.heap H locs) (hi : cs[ci]? = some cc0) (he : cc0[k0]? = some (a, .inl (cy 0, n, .inl f))) (hin : vp_in i n) (hz : vp_nar .byte x = x) (hj : i.toNatClampNeg = j) (hw : cc0.set k0 (a, .inl (cy 0, n, .inl (upd f j x))) = cc1) (hcs : cs.set ci cc1 = cs') (hdg : decode cc pc = .ok (.bastore, 1)) (kk : ∀ (H1 : Heap) (locs1 : List Loc), va_P G vwCl (wj cs') H1 → va_D A (wj cs') → va_S A s.heap H1 locs1 → W p l e R s m args below meth c H1 locs1 0 0 Q (F0 m (pc + 1) ls rest)) : W p l e R s m args below meth c H locs 0 0 Q (F0 m pc ls (.int x :: .int i :: .ref a :: rest)) := by
  subst hj
  subst hw
  subst hcs
  refine va_bast hx hb hK hP hD hS _ 0 (wj_get hi he) rfl hin hdg ?_
  rw [hz]
  rw [wj_set hi (List.getElem?_eq_some_iff.mp he).1]
  exact kk
theorem ldWJ {n : Nat} {f g : Nat → Int64} {i : Int32} {j : Nat} (hx : p.tables.exec = Jvm.exec) (hb : c.code = cc) (hK : va_K G vwCl (tysX cy) s) (hP : va_P G vwCl (wj cs) H) (hi : cs[ci]? = some cc0) (he : cc0[k0]? = some (a, .inl (cy 2, n, .inr (.inl f)))) (hf : f = g) (hin : vp_in i n) (hj : i.toNatClampNeg = j) (hdg : decode cc pc = .ok (.laload, 1)) (kk : W p l e R s m args below meth c H locs 0 0 Q (F0 m (pc + 1) ls (.long (g j) :: rest))) : W p l e R s m args below meth c H locs 0 0 Q (F0 m pc ls (.int i :: .ref a :: rest)) := by
  subst hf
  subst hj
  exact va_lald hx hb hK hP _ 2 (wj_get hi he) rfl hin hdg kk
theorem stWJ {n : Nat} {f : Nat → Int64} {x : Int64} {i : Int32} {j : Nat} (hx : p.tables.exec = Jvm.exec) (hb : c.code = cc) (hK : va_K G vwCl (tysX cy) s) (hP : va_P G vwCl (wj cs) H) (hD : va_D A (wj cs)) (hS : va_S A s.heap H locs) (hi : cs[ci]? = some cc0) (he : cc0[k0]? = some (a, .inl (cy 2, n, .inr (.inl f)))) (hin : vp_in i n) (hj : i.toNatClampNeg = j) (hw : cc0.set k0 (a, .inl (cy 2, n, .inr (.inl (vp_updL f j x)))) = cc1) (hcs : cs.set ci cc1 = cs') (hdg : decode cc pc = .ok (.lastore, 1)) (kk : ∀ (H1 : Heap) (locs1 : List Loc), va_P G vwCl (wj cs') H1 → va_D A (wj cs') → va_S A s.heap H1 locs1 → W p l e R s m args below meth c H1 locs1 0 0 Q (F0 m (pc + 1) ls rest)) : W p l e R s m args below meth c H locs 0 0 Q (F0 m pc ls (.long x :: .int i :: .ref a :: rest)) := by
  subst hj
  subst hw
  subst hcs
  refine va_last hx hb hK hP hD hS _ 2 (wj_get hi he) rfl hin hdg ?_
  rw [wj_set hi (List.getElem?_eq_some_iff.mp he).1]
  exact kk
theorem alW {n : Nat} {v : Int32} {ty : FieldType} {y : ((Nat → Int32) ⊕ (Nat → Int64) ⊕ (Nat → UInt32) ⊕ (Nat → UInt64) ⊕ (Nat → Option Nat))} {tk : Nat} (hx : p.tables.exec = Jvm.exec) (hb : c.code = cc) (hK : va_K G vwCl (tysX cy) s) (hP : va_P G vwCl (wj cs) H) (hi : cs[ci]? = some cc0) (he : cc0[k0]? = some (a, .inl (cy tk, n, y))) (ht : (tysX cy)[tk]? = some (cy tk, ty)) (hv : Int32.ofNat n = v) (hdg : decode cc pc = .ok (.arraylength, 1)) (kk : W p l e R s m args below meth c H locs 0 0 Q (F0 m (pc + 1) ls (.int v :: rest))) : W p l e R s m args below meth c H locs 0 0 Q (F0 m pc ls (.ref a :: rest)) := va_alen hx hb hK hP _ tk (wj_get hi he) ht hv hdg kk
theorem vin_nat {i : Int32} {n : Nat} (h : vp_in i n) : i.toNatClampNeg < n := Nat.not_le.mp fun q => h (Or.inr q)
theorem aldA {n b : Nat} {ad : Nat → Nat} {i : Int32} {j : Nat} (hx : p.tables.exec = Jvm.exec) (hb : c.code = cc) (hK : va_K G vwCl (tysX cy) s) (hP : va_P G vwCl (wj cs) H) (hi : cs[ci]? = some cc0) (he : cc0[k0]? = some (a, .inl (cy 4, n, .inr (.inr (.inr (.inr (fun i => if i < n then some (ad (b + i)) else none))))))) (hin : vp_in i n) (hj : i.toNatClampNeg = j) (hdg : decode cc pc = .ok (.aaload, 1)) (kk : W p l e R s m args below meth c H locs 0 0 Q (F0 m (pc + 1) ls (.ref (ad (b + j)) :: rest))) : W p l e R s m args below meth c H locs 0 0 Q (F0 m pc ls (.int i :: .ref a :: rest)) := by
  subst hj
  have hlt : i.toNatClampNeg < n := vin_nat hin
  have e9 : va_rf (if i.toNatClampNeg < n then some (ad (b + i.toNatClampNeg)) else none) = .ref (ad (b + i.toNatClampNeg)) := by rw [if_pos hlt]; rfl
  rw [← e9] at kk
  exact W.aald (v := va_rf (if i.toNatClampNeg < n then some (ad (b + i.toNatClampNeg)) else none)) (ty := .array .int) hx hb (hP _ _ (wj_get hi he)) ((hK.2 4 _ rfl).1 n (fun j => va_rf (if j < n then some (ad (b + j)) else none))) rfl (fun q => by cases q) (by show ¬ (i < 0 ∨ (arrV _ _ _).slots.size ≤ _); rw [arrV_size]; exact hin) (by show (arrV _ _ _).slots[_]? = _; rw [arrV_read _ _ hlt]) rfl rfl hdg kk
theorem callWVi {own C : String} {idx n b maxL f lc : Nat} {y : MethodName} {bytes : ByteArray} {ret : Option FieldType} {As : List Value} {r : Int32} {ccs ccs' : List va_W} {isC isR : List Nat} (hx : p.tables.exec = Jvm.exec) (hb : c.code = cc) (hml : c.maxLocals = nL) (hown : s.vm.findClass own = some m.cls) (hts : ∀ w ∈ WL, w.before args s = true) (hM : MetI l y bytes maxL ret f lc G cy ev (.ref b :: As) (wj ccs) r (wj ccs')) (hlk : Cond.methodLink own idx y ∈ WL) (hins : Cond.instanceMethod y ∈ WL) (hsel : Cond.selects C y y ∈ WL) (hini : Cond.initialized y.cls ∈ WL) (hcd : Cond.code y bytes maxL ret ∈ WL) (hd : y.cls = C ∧ y.cls ≠ "java/lang/invoke/MethodHandle" ∧ y.cls ≠ "java/lang/invoke/VarHandle" ∧ (parseMethodDescriptor y.desc).map (fun d => d.parameters.length) = some n) (hR : f + 1 ≤ R.frames ∧ 8 + (maxL + 11) + lc ≤ R.locals) (hK : va_K G vwCl (tysX cy) s) (hP : va_P G vwCl (wj cs) H) (hD : va_D A (wj cs)) (hS : va_S A s.heap H locs) (hA : ∀ q : Nat, s.heap.size ≤ q → A q) (hE : EV ev A s s.heap) (hC : isC.map (fun i => cs[i]?) = ccs.map some) (hC' : isC.map (fun i => cs'[i]?) = ccs'.map some) (hRr : isR.map (fun i => cs'[i]?) = isR.map (fun i => cs[i]?)) (hcov : ∀ i, i < cs'.length → i ∈ isC ∨ i ∈ isR) (hdis : ∀ i ∈ isR, i ∉ isC) (hn1 : va_nd isC = true) (hrv : ∃ cell : Cell, H[b]? = some cell ∧ cell.vm.isStatics = false ∧ s.vm.findClass C = some cell.cls) (hst : st = As.reverse ++ .ref b :: rest) (hAn : As.length = n) (hsz : ls.size = nL) (hrm : (rest.map fun v => v.category).sum ≤ 8) (hdg : decode cc pc = .ok (.invokevirtual idx, 3)) (kk : ∀ (H1 : Heap) (locs1 : List Loc), va_P G vwCl (wj cs') H1 → va_D A (wj cs') → va_S A s.heap H1 locs1 → W p l e R s m args below meth c H1 locs1 0 0 Q (F0 m (pc + 3) ls (.int r :: rest))) : W p l e R s m args below meth c H locs 0 0 Q (F0 m pc ls st) := by
  subst hst
  have hPc : va_P G vwCl (wj ccs) H := sel_P hC hP
  have hDc : va_D A (wj ccs) := sel_D hC hn1 hD
  have hFc := sel_F hC hD hS hA
  refine va_calli (va_runV (As := As) (rest := rest) ⟨hx, hb, hml, hown, hts⟩ (hM H.size) (cwV n hts (fun w h => (List.mem_append.mp h).elim (fun h => by rcases List.mem_cons.mp h with rfl | h; exact ⟨hlk, wl_good _ hlk⟩; rcases List.mem_cons.mp h with rfl | h; exact ⟨hins, wl_good _ hins⟩; rcases List.mem_cons.mp h with rfl | h; exact ⟨hsel, wl_good _ hsel⟩; rcases List.mem_cons.mp h with rfl | h; exact ⟨hd.1 ▸ hini, wl_good _ (hd.1 ▸ hini)⟩; cases h) (wl_inW hcd w)) rfl rfl rfl hd hR) ⟨fun a U g mk q => by obtain ⟨q0, q1, qP, qK, qD, qE⟩ := q; exact ⟨q0, q1, qP, va_K.moved (u := U) (U := U.calling g mk a) (Vm.Alike.refl U.vm) qK, qD, EV.same (s := U) (U := U.calling g mk a) rfl qE⟩, hrv, fun U hU hW => ⟨rfl, by rw [hU], by rw [hU]; exact hPc, va_K.moved hW.alike hK, hDc.weaken (fun _ _ _ _ => trivial), EV.pass hE hS hFc hW hU⟩⟩ rfl hAn hsz rfl (lv_room hrm) hdg ⟨Nat.zero_le _, Nat.zero_le _⟩) hS (fun q _ h => hFc q h) hFc (fun r' u t H1 locs1 ht hvm hw hB hz1 hk1 hS1 => ?_)
  obtain ⟨hP1, hK1, hD1⟩ := hB
  rw [ht] at hP1
  subst hw
  obtain ⟨hP2, hD2⟩ := sel_join hP hD hC hC' hRr hcov hdis hn1 hk1 hFc hP1 hD1
  exact kk H1 locs1 hP2 hD2 hS1
theorem callWSi {own : String} {idx n maxL f lc : Nat} {y : MethodName} {bytes : ByteArray} {ret : Option FieldType} {As : List Value} {r : Int32} {ccs ccs' : List va_W} {isC isR : List Nat} (hx : p.tables.exec = Jvm.exec) (hb : c.code = cc) (hml : c.maxLocals = nL) (hown : s.vm.findClass own = some m.cls) (hts : ∀ w ∈ WL, w.before args s = true) (hM : MetI l y bytes maxL ret f lc G cy ev As (wj ccs) r (wj ccs')) (hlk : Cond.methodLink own idx y ∈ WL) (hstt : Cond.static y ∈ WL) (hini : Cond.initialized y.cls ∈ WL) (hcd : Cond.code y bytes maxL ret ∈ WL) (hd : y.cls = own ∧ y.cls ≠ "java/lang/invoke/MethodHandle" ∧ y.cls ≠ "java/lang/invoke/VarHandle" ∧ (parseMethodDescriptor y.desc).map (fun d => d.parameters.length) = some n) (hR : f + 1 ≤ R.frames ∧ 8 + (maxL + 11) + lc ≤ R.locals) (hK : va_K G vwCl (tysX cy) s) (hP : va_P G vwCl (wj cs) H) (hD : va_D A (wj cs)) (hS : va_S A s.heap H locs) (hA : ∀ q : Nat, s.heap.size ≤ q → A q) (hE : EV ev A s s.heap) (hC : isC.map (fun i => cs[i]?) = ccs.map some) (hC' : isC.map (fun i => cs'[i]?) = ccs'.map some) (hRr : isR.map (fun i => cs'[i]?) = isR.map (fun i => cs[i]?)) (hcov : ∀ i, i < cs'.length → i ∈ isC ∨ i ∈ isR) (hdis : ∀ i ∈ isR, i ∉ isC) (hn1 : va_nd isC = true) (hst : st = As.reverse ++ rest) (hAn : As.length = n) (hsz : ls.size = nL) (hrm : (rest.map fun v => v.category).sum ≤ 8) (hdg : decode cc pc = .ok (.invokestatic idx, 3)) (kk : ∀ (H1 : Heap) (locs1 : List Loc), va_P G vwCl (wj cs') H1 → va_D A (wj cs') → va_S A s.heap H1 locs1 → W p l e R s m args below meth c H1 locs1 0 0 Q (F0 m (pc + 3) ls (.int r :: rest))) : W p l e R s m args below meth c H locs 0 0 Q (F0 m pc ls st) := by
  subst hst
  have hPc : va_P G vwCl (wj ccs) H := sel_P hC hP
  have hDc : va_D A (wj ccs) := sel_D hC hn1 hD
  have hFc := sel_F hC hD hS hA
  refine va_calli (va_runS (As := As) (rest := rest) ⟨hx, hb, hml, hown, hts⟩ (hM H.size) (cwS n hts (fun w h => (List.mem_append.mp h).elim (fun h => by rcases List.mem_cons.mp h with rfl | h; exact ⟨hlk, wl_good _ hlk⟩; rcases List.mem_cons.mp h with rfl | h; exact ⟨hstt, wl_good _ hstt⟩; rcases List.mem_cons.mp h with rfl | h; exact ⟨hd.1 ▸ hini, wl_good _ (hd.1 ▸ hini)⟩; cases h) (wl_inW hcd w)) rfl rfl rfl hd hR) ⟨fun a U g mk q => by obtain ⟨q0, q1, qP, qK, qD, qE⟩ := q; exact ⟨q0, q1, qP, va_K.moved (u := U) (U := U.calling g mk a) (Vm.Alike.refl U.vm) qK, qD, EV.same (s := U) (U := U.calling g mk a) rfl qE⟩, fun U hU hW => ⟨rfl, by rw [hU], by rw [hU]; exact hPc, va_K.moved hW.alike hK, hDc.weaken (fun _ _ _ _ => trivial), EV.pass hE hS hFc hW hU⟩⟩ rfl hAn hsz rfl (lv_room hrm) hdg ⟨Nat.zero_le _, Nat.zero_le _⟩) hS (fun q _ h => hFc q h) hFc (fun r' u t H1 locs1 ht hvm hw hB hz1 hk1 hS1 => ?_)
  obtain ⟨hP1, hK1, hD1⟩ := hB
  rw [ht] at hP1
  subst hw
  obtain ⟨hP2, hD2⟩ := sel_join hP hD hC hC' hRr hcov hdis hn1 hk1 hFc hP1 hD1
  exact kk H1 locs1 hP2 hD2 hS1
theorem callWSXi {own : String} {idx n maxL f lc : Nat} {y : MethodName} {bytes : ByteArray} {ret : Option FieldType} {As : List Value} {r : Int32} {ccs ccs' : List va_W} {isC isR : List Nat} (hx : p.tables.exec = Jvm.exec) (hb : c.code = cc) (hml : c.maxLocals = nL) (hown : s.vm.findClass own = some m.cls) (hts : ∀ w ∈ WL, w.before args s = true) (hM : MetI l y bytes maxL ret f lc G cy ev As (wj ccs) r (wj ccs')) (hlk : Cond.methodLink own idx y ∈ WL) (hstt : Cond.static y ∈ WL) (hini : Cond.initialized y.cls ∈ WL) (hcd : Cond.code y bytes maxL ret ∈ WL) (hd : y.cls ≠ "java/lang/invoke/MethodHandle" ∧ y.cls ≠ "java/lang/invoke/VarHandle" ∧ (parseMethodDescriptor y.desc).map (fun d => d.parameters.length) = some n) (hR : f + 1 ≤ R.frames ∧ 8 + (maxL + 11) + lc ≤ R.locals) (hK : va_K G vwCl (tysX cy) s) (hP : va_P G vwCl (wj cs) H) (hD : va_D A (wj cs)) (hS : va_S A s.heap H locs) (hA : ∀ q : Nat, s.heap.size ≤ q → A q) (hE : EV ev A s s.heap) (hC : isC.map (fun i => cs[i]?) = ccs.map some) (hC' : isC.map (fun i => cs'[i]?) = ccs'.map some) (hRr : isR.map (fun i => cs'[i]?) = isR.map (fun i => cs[i]?)) (hcov : ∀ i, i < cs'.length → i ∈ isC ∨ i ∈ isR) (hdis : ∀ i ∈ isR, i ∉ isC) (hn1 : va_nd isC = true) (hst : st = As.reverse ++ rest) (hAn : As.length = n) (hsz : ls.size = nL) (hrm : (rest.map fun v => v.category).sum ≤ 8) (hdg : decode cc pc = .ok (.invokestatic idx, 3)) (kk : ∀ (H1 : Heap) (locs1 : List Loc), va_P G vwCl (wj cs') H1 → va_D A (wj cs') → va_S A s.heap H1 locs1 → W p l e R s m args below meth c H1 locs1 0 0 Q (F0 m (pc + 3) ls (.int r :: rest))) : W p l e R s m args below meth c H locs 0 0 Q (F0 m pc ls st) := by
  subst hst
  have hPc : va_P G vwCl (wj ccs) H := sel_P hC hP
  have hDc : va_D A (wj ccs) := sel_D hC hn1 hD
  have hFc := sel_F hC hD hS hA
  refine va_calli (va_runS (As := As) (rest := rest) ⟨hx, hb, hml, hown, hts⟩ (hM H.size) (va_cwS n hts (fun w h => (List.mem_append.mp h).elim (fun h => by rcases List.mem_cons.mp h with rfl | h; exact ⟨hlk, wl_good _ hlk⟩; rcases List.mem_cons.mp h with rfl | h; exact ⟨hstt, wl_good _ hstt⟩; rcases List.mem_cons.mp h with rfl | h; exact ⟨hini, wl_good _ hini⟩; cases h) (wl_inW hcd w)) rfl rfl rfl hd hR) ⟨fun a U g mk q => by obtain ⟨q0, q1, qP, qK, qD, qE⟩ := q; exact ⟨q0, q1, qP, va_K.moved (u := U) (U := U.calling g mk a) (Vm.Alike.refl U.vm) qK, qD, EV.same (s := U) (U := U.calling g mk a) rfl qE⟩, fun U hU hW => ⟨rfl, by rw [hU], by rw [hU]; exact hPc, va_K.moved hW.alike hK, hDc.weaken (fun _ _ _ _ => trivial), EV.pass hE hS hFc hW hU⟩⟩ rfl hAn hsz rfl (lv_room hrm) hdg ⟨Nat.zero_le _, Nat.zero_le _⟩) hS (fun q _ h => hFc q h) hFc (fun r' u t H1 locs1 ht hvm hw hB hz1 hk1 hS1 => ?_)
  obtain ⟨hP1, hK1, hD1⟩ := hB
  rw [ht] at hP1
  subst hw
  obtain ⟨hP2, hD2⟩ := sel_join hP hD hC hC' hRr hcov hdis hn1 hk1 hFc hP1 hD1
  exact kk H1 locs1 hP2 hD2 hS1
theorem callWVNi {own C host : String} {idx n b maxL f lc : Nat} {y : MethodName} {bytes : ByteArray} {ret : Option FieldType} {As : List Value} {r : Int32} {ccs ccs' : List va_W} {isC isR : List Nat} (hx : p.tables.exec = Jvm.exec) (hb : c.code = cc) (hml : c.maxLocals = nL) (hown : s.vm.findClass own = some m.cls) (hts : ∀ w ∈ WL, w.before args s = true) (hM : MetI l y bytes maxL ret f lc G cy ev (.ref b :: As) (wj ccs) r (wj ccs')) (hlk : va_Nw (.methodLinkNest own idx y host) s) (hins : Cond.instanceMethod y ∈ WL) (hsel : Cond.selects C y y ∈ WL) (hini : Cond.initialized y.cls ∈ WL) (hcd : Cond.code y bytes maxL ret ∈ WL) (hd : y.cls ≠ "java/lang/invoke/MethodHandle" ∧ y.cls ≠ "java/lang/invoke/VarHandle" ∧ (parseMethodDescriptor y.desc).map (fun d => d.parameters.length) = some n) (hR : f + 1 ≤ R.frames ∧ 8 + (maxL + 11) + lc ≤ R.locals) (hK : va_K G vwCl (tysX cy) s) (hP : va_P G vwCl (wj cs) H) (hD : va_D A (wj cs)) (hS : va_S A s.heap H locs) (hA : ∀ q : Nat, s.heap.size ≤ q → A q) (hE : EV ev A s s.heap) (hC : isC.map (fun i => cs[i]?) = ccs.map some) (hC' : isC.map (fun i => cs'[i]?) = ccs'.map some) (hRr : isR.map (fun i => cs'[i]?) = isR.map (fun i => cs[i]?)) (hcov : ∀ i, i < cs'.length → i ∈ isC ∨ i ∈ isR) (hdis : ∀ i ∈ isR, i ∉ isC) (hn1 : va_nd isC = true) (hrv : ∃ cell : Cell, H[b]? = some cell ∧ cell.vm.isStatics = false ∧ s.vm.findClass C = some cell.cls) (hst : st = As.reverse ++ .ref b :: rest) (hAn : As.length = n) (hsz : ls.size = nL) (hrm : (rest.map fun v => v.category).sum ≤ 8) (hdg : decode cc pc = .ok (.invokevirtual idx, 3)) (kk : ∀ (H1 : Heap) (locs1 : List Loc), va_P G vwCl (wj cs') H1 → va_D A (wj cs') → va_S A s.heap H1 locs1 → W p l e R s m args below meth c H1 locs1 0 0 Q (F0 m (pc + 3) ls (.int r :: rest))) : W p l e R s m args below meth c H locs 0 0 Q (F0 m pc ls st) := by
  subst hst
  have hPc : va_P G vwCl (wj ccs) H := sel_P hC hP
  have hDc : va_D A (wj ccs) := sel_D hC hn1 hD
  have hFc := sel_F hC hD hS hA
  refine va_calli (va_runVN (As := As) (rest := rest) ⟨hx, hb, hml, hown, hts⟩ (hM H.size) ⟨va_cnB n hts (wl_inW hcd) rfl rfl rfl hlk (hts _ hini) hd hR, hts _ hins, hts _ hsel⟩ ⟨fun a U g mk q => by obtain ⟨q0, q1, qP, qK, qD, qE⟩ := q; exact ⟨q0, q1, qP, va_K.moved (u := U) (U := U.calling g mk a) (Vm.Alike.refl U.vm) qK, qD, EV.same (s := U) (U := U.calling g mk a) rfl qE⟩, hrv, fun U hU hW => ⟨rfl, by rw [hU], by rw [hU]; exact hPc, va_K.moved hW.alike hK, hDc.weaken (fun _ _ _ _ => trivial), EV.pass hE hS hFc hW hU⟩⟩ rfl hAn hsz rfl (lv_room hrm) hdg ⟨Nat.zero_le _, Nat.zero_le _⟩) hS (fun q _ h => hFc q h) hFc (fun r' u t H1 locs1 ht hvm hw hB hz1 hk1 hS1 => ?_)
  obtain ⟨hP1, hK1, hD1⟩ := hB
  rw [ht] at hP1
  subst hw
  obtain ⟨hP2, hD2⟩ := sel_join hP hD hC hC' hRr hcov hdis hn1 hk1 hFc hP1 hD1
  exact kk H1 locs1 hP2 hD2 hS1
theorem callWSNi {own host : String} {idx n maxL f lc : Nat} {y : MethodName} {bytes : ByteArray} {ret : Option FieldType} {As : List Value} {r : Int32} {ccs ccs' : List va_W} {isC isR : List Nat} (hx : p.tables.exec = Jvm.exec) (hb : c.code = cc) (hml : c.maxLocals = nL) (hown : s.vm.findClass own = some m.cls) (hts : ∀ w ∈ WL, w.before args s = true) (hM : MetI l y bytes maxL ret f lc G cy ev As (wj ccs) r (wj ccs')) (hlk : va_Nw (.methodLinkNest own idx y host) s) (hstt : Cond.static y ∈ WL) (hini : Cond.initialized y.cls ∈ WL) (hcd : Cond.code y bytes maxL ret ∈ WL) (hd : y.cls ≠ "java/lang/invoke/MethodHandle" ∧ y.cls ≠ "java/lang/invoke/VarHandle" ∧ (parseMethodDescriptor y.desc).map (fun d => d.parameters.length) = some n) (hR : f + 1 ≤ R.frames ∧ 8 + (maxL + 11) + lc ≤ R.locals) (hK : va_K G vwCl (tysX cy) s) (hP : va_P G vwCl (wj cs) H) (hD : va_D A (wj cs)) (hS : va_S A s.heap H locs) (hA : ∀ q : Nat, s.heap.size ≤ q → A q) (hE : EV ev A s s.heap) (hC : isC.map (fun i => cs[i]?) = ccs.map some) (hC' : isC.map (fun i => cs'[i]?) = ccs'.map some) (hRr : isR.map (fun i => cs'[i]?) = isR.map (fun i => cs[i]?)) (hcov : ∀ i, i < cs'.length → i ∈ isC ∨ i ∈ isR) (hdis : ∀ i ∈ isR, i ∉ isC) (hn1 : va_nd isC = true) (hst : st = As.reverse ++ rest) (hAn : As.length = n) (hsz : ls.size = nL) (hrm : (rest.map fun v => v.category).sum ≤ 8) (hdg : decode cc pc = .ok (.invokestatic idx, 3)) (kk : ∀ (H1 : Heap) (locs1 : List Loc), va_P G vwCl (wj cs') H1 → va_D A (wj cs') → va_S A s.heap H1 locs1 → W p l e R s m args below meth c H1 locs1 0 0 Q (F0 m (pc + 3) ls (.int r :: rest))) : W p l e R s m args below meth c H locs 0 0 Q (F0 m pc ls st) := by
  subst hst
  have hPc : va_P G vwCl (wj ccs) H := sel_P hC hP
  have hDc : va_D A (wj ccs) := sel_D hC hn1 hD
  have hFc := sel_F hC hD hS hA
  refine va_calli (va_runSN (As := As) (rest := rest) ⟨hx, hb, hml, hown, hts⟩ (hM H.size) ⟨va_cnB n hts (wl_inW hcd) rfl rfl rfl hlk (hts _ hini) hd hR, hts _ hstt, trivial⟩ ⟨fun a U g mk q => by obtain ⟨q0, q1, qP, qK, qD, qE⟩ := q; exact ⟨q0, q1, qP, va_K.moved (u := U) (U := U.calling g mk a) (Vm.Alike.refl U.vm) qK, qD, EV.same (s := U) (U := U.calling g mk a) rfl qE⟩, fun U hU hW => ⟨rfl, by rw [hU], by rw [hU]; exact hPc, va_K.moved hW.alike hK, hDc.weaken (fun _ _ _ _ => trivial), EV.pass hE hS hFc hW hU⟩⟩ rfl hAn hsz rfl (lv_room hrm) hdg ⟨Nat.zero_le _, Nat.zero_le _⟩) hS (fun q _ h => hFc q h) hFc (fun r' u t H1 locs1 ht hvm hw hB hz1 hk1 hS1 => ?_)
  obtain ⟨hP1, hK1, hD1⟩ := hB
  rw [ht] at hP1
  subst hw
  obtain ⟨hP2, hD2⟩ := sel_join hP hD hC hC' hRr hcov hdis hn1 hk1 hFc hP1 hD1
  exact kk H1 locs1 hP2 hD2 hS1
theorem callWVl {own C : String} {idx n b maxL f lc : Nat} {y : MethodName} {bytes : ByteArray} {ret : Option FieldType} {As : List Value} {r : Int64} {ccs ccs' : List va_W} {isC isR : List Nat} (hx : p.tables.exec = Jvm.exec) (hb : c.code = cc) (hml : c.maxLocals = nL) (hown : s.vm.findClass own = some m.cls) (hts : ∀ w ∈ WL, w.before args s = true) (hM : MetL l y bytes maxL ret f lc G cy ev (.ref b :: As) (wj ccs) r (wj ccs')) (hlk : Cond.methodLink own idx y ∈ WL) (hins : Cond.instanceMethod y ∈ WL) (hsel : Cond.selects C y y ∈ WL) (hini : Cond.initialized y.cls ∈ WL) (hcd : Cond.code y bytes maxL ret ∈ WL) (hd : y.cls = C ∧ y.cls ≠ "java/lang/invoke/MethodHandle" ∧ y.cls ≠ "java/lang/invoke/VarHandle" ∧ (parseMethodDescriptor y.desc).map (fun d => d.parameters.length) = some n) (hR : f + 1 ≤ R.frames ∧ 8 + (maxL + 11) + lc ≤ R.locals) (hK : va_K G vwCl (tysX cy) s) (hP : va_P G vwCl (wj cs) H) (hD : va_D A (wj cs)) (hS : va_S A s.heap H locs) (hA : ∀ q : Nat, s.heap.size ≤ q → A q) (hE : EV ev A s s.heap) (hC : isC.map (fun i => cs[i]?) = ccs.map some) (hC' : isC.map (fun i => cs'[i]?) = ccs'.map some) (hRr : isR.map (fun i => cs'[i]?) = isR.map (fun i => cs[i]?)) (hcov : ∀ i, i < cs'.length → i ∈ isC ∨ i ∈ isR) (hdis : ∀ i ∈ isR, i ∉ isC) (hn1 : va_nd isC = true) (hrv : ∃ cell : Cell, H[b]? = some cell ∧ cell.vm.isStatics = false ∧ s.vm.findClass C = some cell.cls) (hst : st = As.reverse ++ .ref b :: rest) (hAn : As.length = n) (hsz : ls.size = nL) (hrm : (rest.map fun v => v.category).sum ≤ 8) (hdg : decode cc pc = .ok (.invokevirtual idx, 3)) (kk : ∀ (H1 : Heap) (locs1 : List Loc), va_P G vwCl (wj cs') H1 → va_D A (wj cs') → va_S A s.heap H1 locs1 → W p l e R s m args below meth c H1 locs1 0 0 Q (F0 m (pc + 3) ls (.long r :: rest))) : W p l e R s m args below meth c H locs 0 0 Q (F0 m pc ls st) := by
  subst hst
  have hPc : va_P G vwCl (wj ccs) H := sel_P hC hP
  have hDc : va_D A (wj ccs) := sel_D hC hn1 hD
  have hFc := sel_F hC hD hS hA
  refine va_calll (va_runV (As := As) (rest := rest) ⟨hx, hb, hml, hown, hts⟩ (hM H.size) (cwV n hts (fun w h => (List.mem_append.mp h).elim (fun h => by rcases List.mem_cons.mp h with rfl | h; exact ⟨hlk, wl_good _ hlk⟩; rcases List.mem_cons.mp h with rfl | h; exact ⟨hins, wl_good _ hins⟩; rcases List.mem_cons.mp h with rfl | h; exact ⟨hsel, wl_good _ hsel⟩; rcases List.mem_cons.mp h with rfl | h; exact ⟨hd.1 ▸ hini, wl_good _ (hd.1 ▸ hini)⟩; cases h) (wl_inW hcd w)) rfl rfl rfl hd hR) ⟨fun a U g mk q => by obtain ⟨q0, q1, qP, qK, qD, qE⟩ := q; exact ⟨q0, q1, qP, va_K.moved (u := U) (U := U.calling g mk a) (Vm.Alike.refl U.vm) qK, qD, EV.same (s := U) (U := U.calling g mk a) rfl qE⟩, hrv, fun U hU hW => ⟨rfl, by rw [hU], by rw [hU]; exact hPc, va_K.moved hW.alike hK, hDc.weaken (fun _ _ _ _ => trivial), EV.pass hE hS hFc hW hU⟩⟩ rfl hAn hsz rfl (lv_room hrm) hdg ⟨Nat.zero_le _, Nat.zero_le _⟩) hS (fun q _ h => hFc q h) hFc (fun r' u t H1 locs1 ht hvm hw hB hz1 hk1 hS1 => ?_)
  obtain ⟨hP1, hK1, hD1⟩ := hB
  rw [ht] at hP1
  subst hw
  obtain ⟨hP2, hD2⟩ := sel_join hP hD hC hC' hRr hcov hdis hn1 hk1 hFc hP1 hD1
  exact kk H1 locs1 hP2 hD2 hS1
theorem callWSl {own : String} {idx n maxL f lc : Nat} {y : MethodName} {bytes : ByteArray} {ret : Option FieldType} {As : List Value} {r : Int64} {ccs ccs' : List va_W} {isC isR : List Nat} (hx : p.tables.exec = Jvm.exec) (hb : c.code = cc) (hml : c.maxLocals = nL) (hown : s.vm.findClass own = some m.cls) (hts : ∀ w ∈ WL, w.before args s = true) (hM : MetL l y bytes maxL ret f lc G cy ev As (wj ccs) r (wj ccs')) (hlk : Cond.methodLink own idx y ∈ WL) (hstt : Cond.static y ∈ WL) (hini : Cond.initialized y.cls ∈ WL) (hcd : Cond.code y bytes maxL ret ∈ WL) (hd : y.cls = own ∧ y.cls ≠ "java/lang/invoke/MethodHandle" ∧ y.cls ≠ "java/lang/invoke/VarHandle" ∧ (parseMethodDescriptor y.desc).map (fun d => d.parameters.length) = some n) (hR : f + 1 ≤ R.frames ∧ 8 + (maxL + 11) + lc ≤ R.locals) (hK : va_K G vwCl (tysX cy) s) (hP : va_P G vwCl (wj cs) H) (hD : va_D A (wj cs)) (hS : va_S A s.heap H locs) (hA : ∀ q : Nat, s.heap.size ≤ q → A q) (hE : EV ev A s s.heap) (hC : isC.map (fun i => cs[i]?) = ccs.map some) (hC' : isC.map (fun i => cs'[i]?) = ccs'.map some) (hRr : isR.map (fun i => cs'[i]?) = isR.map (fun i => cs[i]?)) (hcov : ∀ i, i < cs'.length → i ∈ isC ∨ i ∈ isR) (hdis : ∀ i ∈ isR, i ∉ isC) (hn1 : va_nd isC = true) (hst : st = As.reverse ++ rest) (hAn : As.length = n) (hsz : ls.size = nL) (hrm : (rest.map fun v => v.category).sum ≤ 8) (hdg : decode cc pc = .ok (.invokestatic idx, 3)) (kk : ∀ (H1 : Heap) (locs1 : List Loc), va_P G vwCl (wj cs') H1 → va_D A (wj cs') → va_S A s.heap H1 locs1 → W p l e R s m args below meth c H1 locs1 0 0 Q (F0 m (pc + 3) ls (.long r :: rest))) : W p l e R s m args below meth c H locs 0 0 Q (F0 m pc ls st) := by
  subst hst
  have hPc : va_P G vwCl (wj ccs) H := sel_P hC hP
  have hDc : va_D A (wj ccs) := sel_D hC hn1 hD
  have hFc := sel_F hC hD hS hA
  refine va_calll (va_runS (As := As) (rest := rest) ⟨hx, hb, hml, hown, hts⟩ (hM H.size) (cwS n hts (fun w h => (List.mem_append.mp h).elim (fun h => by rcases List.mem_cons.mp h with rfl | h; exact ⟨hlk, wl_good _ hlk⟩; rcases List.mem_cons.mp h with rfl | h; exact ⟨hstt, wl_good _ hstt⟩; rcases List.mem_cons.mp h with rfl | h; exact ⟨hd.1 ▸ hini, wl_good _ (hd.1 ▸ hini)⟩; cases h) (wl_inW hcd w)) rfl rfl rfl hd hR) ⟨fun a U g mk q => by obtain ⟨q0, q1, qP, qK, qD, qE⟩ := q; exact ⟨q0, q1, qP, va_K.moved (u := U) (U := U.calling g mk a) (Vm.Alike.refl U.vm) qK, qD, EV.same (s := U) (U := U.calling g mk a) rfl qE⟩, fun U hU hW => ⟨rfl, by rw [hU], by rw [hU]; exact hPc, va_K.moved hW.alike hK, hDc.weaken (fun _ _ _ _ => trivial), EV.pass hE hS hFc hW hU⟩⟩ rfl hAn hsz rfl (lv_room hrm) hdg ⟨Nat.zero_le _, Nat.zero_le _⟩) hS (fun q _ h => hFc q h) hFc (fun r' u t H1 locs1 ht hvm hw hB hz1 hk1 hS1 => ?_)
  obtain ⟨hP1, hK1, hD1⟩ := hB
  rw [ht] at hP1
  subst hw
  obtain ⟨hP2, hD2⟩ := sel_join hP hD hC hC' hRr hcov hdis hn1 hk1 hFc hP1 hD1
  exact kk H1 locs1 hP2 hD2 hS1
theorem callWSXl {own : String} {idx n maxL f lc : Nat} {y : MethodName} {bytes : ByteArray} {ret : Option FieldType} {As : List Value} {r : Int64} {ccs ccs' : List va_W} {isC isR : List Nat} (hx : p.tables.exec = Jvm.exec) (hb : c.code = cc) (hml : c.maxLocals = nL) (hown : s.vm.findClass own = some m.cls) (hts : ∀ w ∈ WL, w.before args s = true) (hM : MetL l y bytes maxL ret f lc G cy ev As (wj ccs) r (wj ccs')) (hlk : Cond.methodLink own idx y ∈ WL) (hstt : Cond.static y ∈ WL) (hini : Cond.initialized y.cls ∈ WL) (hcd : Cond.code y bytes maxL ret ∈ WL) (hd : y.cls ≠ "java/lang/invoke/MethodHandle" ∧ y.cls ≠ "java/lang/invoke/VarHandle" ∧ (parseMethodDescriptor y.desc).map (fun d => d.parameters.length) = some n) (hR : f + 1 ≤ R.frames ∧ 8 + (maxL + 11) + lc ≤ R.locals) (hK : va_K G vwCl (tysX cy) s) (hP : va_P G vwCl (wj cs) H) (hD : va_D A (wj cs)) (hS : va_S A s.heap H locs) (hA : ∀ q : Nat, s.heap.size ≤ q → A q) (hE : EV ev A s s.heap) (hC : isC.map (fun i => cs[i]?) = ccs.map some) (hC' : isC.map (fun i => cs'[i]?) = ccs'.map some) (hRr : isR.map (fun i => cs'[i]?) = isR.map (fun i => cs[i]?)) (hcov : ∀ i, i < cs'.length → i ∈ isC ∨ i ∈ isR) (hdis : ∀ i ∈ isR, i ∉ isC) (hn1 : va_nd isC = true) (hst : st = As.reverse ++ rest) (hAn : As.length = n) (hsz : ls.size = nL) (hrm : (rest.map fun v => v.category).sum ≤ 8) (hdg : decode cc pc = .ok (.invokestatic idx, 3)) (kk : ∀ (H1 : Heap) (locs1 : List Loc), va_P G vwCl (wj cs') H1 → va_D A (wj cs') → va_S A s.heap H1 locs1 → W p l e R s m args below meth c H1 locs1 0 0 Q (F0 m (pc + 3) ls (.long r :: rest))) : W p l e R s m args below meth c H locs 0 0 Q (F0 m pc ls st) := by
  subst hst
  have hPc : va_P G vwCl (wj ccs) H := sel_P hC hP
  have hDc : va_D A (wj ccs) := sel_D hC hn1 hD
  have hFc := sel_F hC hD hS hA
  refine va_calll (va_runS (As := As) (rest := rest) ⟨hx, hb, hml, hown, hts⟩ (hM H.size) (va_cwS n hts (fun w h => (List.mem_append.mp h).elim (fun h => by rcases List.mem_cons.mp h with rfl | h; exact ⟨hlk, wl_good _ hlk⟩; rcases List.mem_cons.mp h with rfl | h; exact ⟨hstt, wl_good _ hstt⟩; rcases List.mem_cons.mp h with rfl | h; exact ⟨hini, wl_good _ hini⟩; cases h) (wl_inW hcd w)) rfl rfl rfl hd hR) ⟨fun a U g mk q => by obtain ⟨q0, q1, qP, qK, qD, qE⟩ := q; exact ⟨q0, q1, qP, va_K.moved (u := U) (U := U.calling g mk a) (Vm.Alike.refl U.vm) qK, qD, EV.same (s := U) (U := U.calling g mk a) rfl qE⟩, fun U hU hW => ⟨rfl, by rw [hU], by rw [hU]; exact hPc, va_K.moved hW.alike hK, hDc.weaken (fun _ _ _ _ => trivial), EV.pass hE hS hFc hW hU⟩⟩ rfl hAn hsz rfl (lv_room hrm) hdg ⟨Nat.zero_le _, Nat.zero_le _⟩) hS (fun q _ h => hFc q h) hFc (fun r' u t H1 locs1 ht hvm hw hB hz1 hk1 hS1 => ?_)
  obtain ⟨hP1, hK1, hD1⟩ := hB
  rw [ht] at hP1
  subst hw
  obtain ⟨hP2, hD2⟩ := sel_join hP hD hC hC' hRr hcov hdis hn1 hk1 hFc hP1 hD1
  exact kk H1 locs1 hP2 hD2 hS1
theorem callWVNl {own C host : String} {idx n b maxL f lc : Nat} {y : MethodName} {bytes : ByteArray} {ret : Option FieldType} {As : List Value} {r : Int64} {ccs ccs' : List va_W} {isC isR : List Nat} (hx : p.tables.exec = Jvm.exec) (hb : c.code = cc) (hml : c.maxLocals = nL) (hown : s.vm.findClass own = some m.cls) (hts : ∀ w ∈ WL, w.before args s = true) (hM : MetL l y bytes maxL ret f lc G cy ev (.ref b :: As) (wj ccs) r (wj ccs')) (hlk : va_Nw (.methodLinkNest own idx y host) s) (hins : Cond.instanceMethod y ∈ WL) (hsel : Cond.selects C y y ∈ WL) (hini : Cond.initialized y.cls ∈ WL) (hcd : Cond.code y bytes maxL ret ∈ WL) (hd : y.cls ≠ "java/lang/invoke/MethodHandle" ∧ y.cls ≠ "java/lang/invoke/VarHandle" ∧ (parseMethodDescriptor y.desc).map (fun d => d.parameters.length) = some n) (hR : f + 1 ≤ R.frames ∧ 8 + (maxL + 11) + lc ≤ R.locals) (hK : va_K G vwCl (tysX cy) s) (hP : va_P G vwCl (wj cs) H) (hD : va_D A (wj cs)) (hS : va_S A s.heap H locs) (hA : ∀ q : Nat, s.heap.size ≤ q → A q) (hE : EV ev A s s.heap) (hC : isC.map (fun i => cs[i]?) = ccs.map some) (hC' : isC.map (fun i => cs'[i]?) = ccs'.map some) (hRr : isR.map (fun i => cs'[i]?) = isR.map (fun i => cs[i]?)) (hcov : ∀ i, i < cs'.length → i ∈ isC ∨ i ∈ isR) (hdis : ∀ i ∈ isR, i ∉ isC) (hn1 : va_nd isC = true) (hrv : ∃ cell : Cell, H[b]? = some cell ∧ cell.vm.isStatics = false ∧ s.vm.findClass C = some cell.cls) (hst : st = As.reverse ++ .ref b :: rest) (hAn : As.length = n) (hsz : ls.size = nL) (hrm : (rest.map fun v => v.category).sum ≤ 8) (hdg : decode cc pc = .ok (.invokevirtual idx, 3)) (kk : ∀ (H1 : Heap) (locs1 : List Loc), va_P G vwCl (wj cs') H1 → va_D A (wj cs') → va_S A s.heap H1 locs1 → W p l e R s m args below meth c H1 locs1 0 0 Q (F0 m (pc + 3) ls (.long r :: rest))) : W p l e R s m args below meth c H locs 0 0 Q (F0 m pc ls st) := by
  subst hst
  have hPc : va_P G vwCl (wj ccs) H := sel_P hC hP
  have hDc : va_D A (wj ccs) := sel_D hC hn1 hD
  have hFc := sel_F hC hD hS hA
  refine va_calll (va_runVN (As := As) (rest := rest) ⟨hx, hb, hml, hown, hts⟩ (hM H.size) ⟨va_cnB n hts (wl_inW hcd) rfl rfl rfl hlk (hts _ hini) hd hR, hts _ hins, hts _ hsel⟩ ⟨fun a U g mk q => by obtain ⟨q0, q1, qP, qK, qD, qE⟩ := q; exact ⟨q0, q1, qP, va_K.moved (u := U) (U := U.calling g mk a) (Vm.Alike.refl U.vm) qK, qD, EV.same (s := U) (U := U.calling g mk a) rfl qE⟩, hrv, fun U hU hW => ⟨rfl, by rw [hU], by rw [hU]; exact hPc, va_K.moved hW.alike hK, hDc.weaken (fun _ _ _ _ => trivial), EV.pass hE hS hFc hW hU⟩⟩ rfl hAn hsz rfl (lv_room hrm) hdg ⟨Nat.zero_le _, Nat.zero_le _⟩) hS (fun q _ h => hFc q h) hFc (fun r' u t H1 locs1 ht hvm hw hB hz1 hk1 hS1 => ?_)
  obtain ⟨hP1, hK1, hD1⟩ := hB
  rw [ht] at hP1
  subst hw
  obtain ⟨hP2, hD2⟩ := sel_join hP hD hC hC' hRr hcov hdis hn1 hk1 hFc hP1 hD1
  exact kk H1 locs1 hP2 hD2 hS1
theorem callWSNl {own host : String} {idx n maxL f lc : Nat} {y : MethodName} {bytes : ByteArray} {ret : Option FieldType} {As : List Value} {r : Int64} {ccs ccs' : List va_W} {isC isR : List Nat} (hx : p.tables.exec = Jvm.exec) (hb : c.code = cc) (hml : c.maxLocals = nL) (hown : s.vm.findClass own = some m.cls) (hts : ∀ w ∈ WL, w.before args s = true) (hM : MetL l y bytes maxL ret f lc G cy ev As (wj ccs) r (wj ccs')) (hlk : va_Nw (.methodLinkNest own idx y host) s) (hstt : Cond.static y ∈ WL) (hini : Cond.initialized y.cls ∈ WL) (hcd : Cond.code y bytes maxL ret ∈ WL) (hd : y.cls ≠ "java/lang/invoke/MethodHandle" ∧ y.cls ≠ "java/lang/invoke/VarHandle" ∧ (parseMethodDescriptor y.desc).map (fun d => d.parameters.length) = some n) (hR : f + 1 ≤ R.frames ∧ 8 + (maxL + 11) + lc ≤ R.locals) (hK : va_K G vwCl (tysX cy) s) (hP : va_P G vwCl (wj cs) H) (hD : va_D A (wj cs)) (hS : va_S A s.heap H locs) (hA : ∀ q : Nat, s.heap.size ≤ q → A q) (hE : EV ev A s s.heap) (hC : isC.map (fun i => cs[i]?) = ccs.map some) (hC' : isC.map (fun i => cs'[i]?) = ccs'.map some) (hRr : isR.map (fun i => cs'[i]?) = isR.map (fun i => cs[i]?)) (hcov : ∀ i, i < cs'.length → i ∈ isC ∨ i ∈ isR) (hdis : ∀ i ∈ isR, i ∉ isC) (hn1 : va_nd isC = true) (hst : st = As.reverse ++ rest) (hAn : As.length = n) (hsz : ls.size = nL) (hrm : (rest.map fun v => v.category).sum ≤ 8) (hdg : decode cc pc = .ok (.invokestatic idx, 3)) (kk : ∀ (H1 : Heap) (locs1 : List Loc), va_P G vwCl (wj cs') H1 → va_D A (wj cs') → va_S A s.heap H1 locs1 → W p l e R s m args below meth c H1 locs1 0 0 Q (F0 m (pc + 3) ls (.long r :: rest))) : W p l e R s m args below meth c H locs 0 0 Q (F0 m pc ls st) := by
  subst hst
  have hPc : va_P G vwCl (wj ccs) H := sel_P hC hP
  have hDc : va_D A (wj ccs) := sel_D hC hn1 hD
  have hFc := sel_F hC hD hS hA
  refine va_calll (va_runSN (As := As) (rest := rest) ⟨hx, hb, hml, hown, hts⟩ (hM H.size) ⟨va_cnB n hts (wl_inW hcd) rfl rfl rfl hlk (hts _ hini) hd hR, hts _ hstt, trivial⟩ ⟨fun a U g mk q => by obtain ⟨q0, q1, qP, qK, qD, qE⟩ := q; exact ⟨q0, q1, qP, va_K.moved (u := U) (U := U.calling g mk a) (Vm.Alike.refl U.vm) qK, qD, EV.same (s := U) (U := U.calling g mk a) rfl qE⟩, fun U hU hW => ⟨rfl, by rw [hU], by rw [hU]; exact hPc, va_K.moved hW.alike hK, hDc.weaken (fun _ _ _ _ => trivial), EV.pass hE hS hFc hW hU⟩⟩ rfl hAn hsz rfl (lv_room hrm) hdg ⟨Nat.zero_le _, Nat.zero_le _⟩) hS (fun q _ h => hFc q h) hFc (fun r' u t H1 locs1 ht hvm hw hB hz1 hk1 hS1 => ?_)
  obtain ⟨hP1, hK1, hD1⟩ := hB
  rw [ht] at hP1
  subst hw
  obtain ⟨hP2, hD2⟩ := sel_join hP hD hC hC' hRr hcov hdis hn1 hk1 hFc hP1 hD1
  exact kk H1 locs1 hP2 hD2 hS1
theorem callWVv {own C : String} {idx n b maxL f lc : Nat} {y : MethodName} {bytes : ByteArray} {ret : Option FieldType} {As : List Value} {ccs ccs' : List va_W} {isC isR : List Nat} (hx : p.tables.exec = Jvm.exec) (hb : c.code = cc) (hml : c.maxLocals = nL) (hown : s.vm.findClass own = some m.cls) (hts : ∀ w ∈ WL, w.before args s = true) (hM : MetV l y bytes maxL ret f lc G cy ev (.ref b :: As) (wj ccs) (wj ccs')) (hlk : Cond.methodLink own idx y ∈ WL) (hins : Cond.instanceMethod y ∈ WL) (hsel : Cond.selects C y y ∈ WL) (hini : Cond.initialized y.cls ∈ WL) (hcd : Cond.code y bytes maxL ret ∈ WL) (hd : y.cls = C ∧ y.cls ≠ "java/lang/invoke/MethodHandle" ∧ y.cls ≠ "java/lang/invoke/VarHandle" ∧ (parseMethodDescriptor y.desc).map (fun d => d.parameters.length) = some n) (hR : f + 1 ≤ R.frames ∧ 8 + (maxL + 11) + lc ≤ R.locals) (hK : va_K G vwCl (tysX cy) s) (hP : va_P G vwCl (wj cs) H) (hD : va_D A (wj cs)) (hS : va_S A s.heap H locs) (hA : ∀ q : Nat, s.heap.size ≤ q → A q) (hE : EV ev A s s.heap) (hC : isC.map (fun i => cs[i]?) = ccs.map some) (hC' : isC.map (fun i => cs'[i]?) = ccs'.map some) (hRr : isR.map (fun i => cs'[i]?) = isR.map (fun i => cs[i]?)) (hcov : ∀ i, i < cs'.length → i ∈ isC ∨ i ∈ isR) (hdis : ∀ i ∈ isR, i ∉ isC) (hn1 : va_nd isC = true) (hrv : ∃ cell : Cell, H[b]? = some cell ∧ cell.vm.isStatics = false ∧ s.vm.findClass C = some cell.cls) (hst : st = As.reverse ++ .ref b :: rest) (hAn : As.length = n) (hsz : ls.size = nL) (hrm : (rest.map fun v => v.category).sum ≤ 8) (hdg : decode cc pc = .ok (.invokevirtual idx, 3)) (kk : ∀ (H1 : Heap) (locs1 : List Loc), va_P G vwCl (wj cs') H1 → va_D A (wj cs') → va_S A s.heap H1 locs1 → W p l e R s m args below meth c H1 locs1 0 0 Q (F0 m (pc + 3) ls rest)) : W p l e R s m args below meth c H locs 0 0 Q (F0 m pc ls st) := by
  subst hst
  have hPc : va_P G vwCl (wj ccs) H := sel_P hC hP
  have hDc : va_D A (wj ccs) := sel_D hC hn1 hD
  have hFc := sel_F hC hD hS hA
  refine va_callv (va_runV (As := As) (rest := rest) ⟨hx, hb, hml, hown, hts⟩ (hM H.size) (cwV n hts (fun w h => (List.mem_append.mp h).elim (fun h => by rcases List.mem_cons.mp h with rfl | h; exact ⟨hlk, wl_good _ hlk⟩; rcases List.mem_cons.mp h with rfl | h; exact ⟨hins, wl_good _ hins⟩; rcases List.mem_cons.mp h with rfl | h; exact ⟨hsel, wl_good _ hsel⟩; rcases List.mem_cons.mp h with rfl | h; exact ⟨hd.1 ▸ hini, wl_good _ (hd.1 ▸ hini)⟩; cases h) (wl_inW hcd w)) rfl rfl rfl hd hR) ⟨fun a U g mk q => by obtain ⟨q0, q1, qP, qK, qD, qE⟩ := q; exact ⟨q0, q1, qP, va_K.moved (u := U) (U := U.calling g mk a) (Vm.Alike.refl U.vm) qK, qD, EV.same (s := U) (U := U.calling g mk a) rfl qE⟩, hrv, fun U hU hW => ⟨rfl, by rw [hU], by rw [hU]; exact hPc, va_K.moved hW.alike hK, hDc.weaken (fun _ _ _ _ => trivial), EV.pass hE hS hFc hW hU⟩⟩ rfl hAn hsz rfl (lv_room hrm) hdg ⟨Nat.zero_le _, Nat.zero_le _⟩) hS (fun q _ h => hFc q h) hFc (fun u t H1 locs1 ht hvm hw hB hz1 hk1 hS1 => ?_)
  obtain ⟨hP1, hK1, hD1⟩ := hB
  rw [ht] at hP1
  obtain ⟨hP2, hD2⟩ := sel_join hP hD hC hC' hRr hcov hdis hn1 hk1 hFc hP1 hD1
  exact kk H1 locs1 hP2 hD2 hS1
theorem callWSv {own : String} {idx n maxL f lc : Nat} {y : MethodName} {bytes : ByteArray} {ret : Option FieldType} {As : List Value} {ccs ccs' : List va_W} {isC isR : List Nat} (hx : p.tables.exec = Jvm.exec) (hb : c.code = cc) (hml : c.maxLocals = nL) (hown : s.vm.findClass own = some m.cls) (hts : ∀ w ∈ WL, w.before args s = true) (hM : MetV l y bytes maxL ret f lc G cy ev As (wj ccs) (wj ccs')) (hlk : Cond.methodLink own idx y ∈ WL) (hstt : Cond.static y ∈ WL) (hini : Cond.initialized y.cls ∈ WL) (hcd : Cond.code y bytes maxL ret ∈ WL) (hd : y.cls = own ∧ y.cls ≠ "java/lang/invoke/MethodHandle" ∧ y.cls ≠ "java/lang/invoke/VarHandle" ∧ (parseMethodDescriptor y.desc).map (fun d => d.parameters.length) = some n) (hR : f + 1 ≤ R.frames ∧ 8 + (maxL + 11) + lc ≤ R.locals) (hK : va_K G vwCl (tysX cy) s) (hP : va_P G vwCl (wj cs) H) (hD : va_D A (wj cs)) (hS : va_S A s.heap H locs) (hA : ∀ q : Nat, s.heap.size ≤ q → A q) (hE : EV ev A s s.heap) (hC : isC.map (fun i => cs[i]?) = ccs.map some) (hC' : isC.map (fun i => cs'[i]?) = ccs'.map some) (hRr : isR.map (fun i => cs'[i]?) = isR.map (fun i => cs[i]?)) (hcov : ∀ i, i < cs'.length → i ∈ isC ∨ i ∈ isR) (hdis : ∀ i ∈ isR, i ∉ isC) (hn1 : va_nd isC = true) (hst : st = As.reverse ++ rest) (hAn : As.length = n) (hsz : ls.size = nL) (hrm : (rest.map fun v => v.category).sum ≤ 8) (hdg : decode cc pc = .ok (.invokestatic idx, 3)) (kk : ∀ (H1 : Heap) (locs1 : List Loc), va_P G vwCl (wj cs') H1 → va_D A (wj cs') → va_S A s.heap H1 locs1 → W p l e R s m args below meth c H1 locs1 0 0 Q (F0 m (pc + 3) ls rest)) : W p l e R s m args below meth c H locs 0 0 Q (F0 m pc ls st) := by
  subst hst
  have hPc : va_P G vwCl (wj ccs) H := sel_P hC hP
  have hDc : va_D A (wj ccs) := sel_D hC hn1 hD
  have hFc := sel_F hC hD hS hA
  refine va_callv (va_runS (As := As) (rest := rest) ⟨hx, hb, hml, hown, hts⟩ (hM H.size) (cwS n hts (fun w h => (List.mem_append.mp h).elim (fun h => by rcases List.mem_cons.mp h with rfl | h; exact ⟨hlk, wl_good _ hlk⟩; rcases List.mem_cons.mp h with rfl | h; exact ⟨hstt, wl_good _ hstt⟩; rcases List.mem_cons.mp h with rfl | h; exact ⟨hd.1 ▸ hini, wl_good _ (hd.1 ▸ hini)⟩; cases h) (wl_inW hcd w)) rfl rfl rfl hd hR) ⟨fun a U g mk q => by obtain ⟨q0, q1, qP, qK, qD, qE⟩ := q; exact ⟨q0, q1, qP, va_K.moved (u := U) (U := U.calling g mk a) (Vm.Alike.refl U.vm) qK, qD, EV.same (s := U) (U := U.calling g mk a) rfl qE⟩, fun U hU hW => ⟨rfl, by rw [hU], by rw [hU]; exact hPc, va_K.moved hW.alike hK, hDc.weaken (fun _ _ _ _ => trivial), EV.pass hE hS hFc hW hU⟩⟩ rfl hAn hsz rfl (lv_room hrm) hdg ⟨Nat.zero_le _, Nat.zero_le _⟩) hS (fun q _ h => hFc q h) hFc (fun u t H1 locs1 ht hvm hw hB hz1 hk1 hS1 => ?_)
  obtain ⟨hP1, hK1, hD1⟩ := hB
  rw [ht] at hP1
  obtain ⟨hP2, hD2⟩ := sel_join hP hD hC hC' hRr hcov hdis hn1 hk1 hFc hP1 hD1
  exact kk H1 locs1 hP2 hD2 hS1
theorem callWSXv {own : String} {idx n maxL f lc : Nat} {y : MethodName} {bytes : ByteArray} {ret : Option FieldType} {As : List Value} {ccs ccs' : List va_W} {isC isR : List Nat} (hx : p.tables.exec = Jvm.exec) (hb : c.code = cc) (hml : c.maxLocals = nL) (hown : s.vm.findClass own = some m.cls) (hts : ∀ w ∈ WL, w.before args s = true) (hM : MetV l y bytes maxL ret f lc G cy ev As (wj ccs) (wj ccs')) (hlk : Cond.methodLink own idx y ∈ WL) (hstt : Cond.static y ∈ WL) (hini : Cond.initialized y.cls ∈ WL) (hcd : Cond.code y bytes maxL ret ∈ WL) (hd : y.cls ≠ "java/lang/invoke/MethodHandle" ∧ y.cls ≠ "java/lang/invoke/VarHandle" ∧ (parseMethodDescriptor y.desc).map (fun d => d.parameters.length) = some n) (hR : f + 1 ≤ R.frames ∧ 8 + (maxL + 11) + lc ≤ R.locals) (hK : va_K G vwCl (tysX cy) s) (hP : va_P G vwCl (wj cs) H) (hD : va_D A (wj cs)) (hS : va_S A s.heap H locs) (hA : ∀ q : Nat, s.heap.size ≤ q → A q) (hE : EV ev A s s.heap) (hC : isC.map (fun i => cs[i]?) = ccs.map some) (hC' : isC.map (fun i => cs'[i]?) = ccs'.map some) (hRr : isR.map (fun i => cs'[i]?) = isR.map (fun i => cs[i]?)) (hcov : ∀ i, i < cs'.length → i ∈ isC ∨ i ∈ isR) (hdis : ∀ i ∈ isR, i ∉ isC) (hn1 : va_nd isC = true) (hst : st = As.reverse ++ rest) (hAn : As.length = n) (hsz : ls.size = nL) (hrm : (rest.map fun v => v.category).sum ≤ 8) (hdg : decode cc pc = .ok (.invokestatic idx, 3)) (kk : ∀ (H1 : Heap) (locs1 : List Loc), va_P G vwCl (wj cs') H1 → va_D A (wj cs') → va_S A s.heap H1 locs1 → W p l e R s m args below meth c H1 locs1 0 0 Q (F0 m (pc + 3) ls rest)) : W p l e R s m args below meth c H locs 0 0 Q (F0 m pc ls st) := by
  subst hst
  have hPc : va_P G vwCl (wj ccs) H := sel_P hC hP
  have hDc : va_D A (wj ccs) := sel_D hC hn1 hD
  have hFc := sel_F hC hD hS hA
  refine va_callv (va_runS (As := As) (rest := rest) ⟨hx, hb, hml, hown, hts⟩ (hM H.size) (va_cwS n hts (fun w h => (List.mem_append.mp h).elim (fun h => by rcases List.mem_cons.mp h with rfl | h; exact ⟨hlk, wl_good _ hlk⟩; rcases List.mem_cons.mp h with rfl | h; exact ⟨hstt, wl_good _ hstt⟩; rcases List.mem_cons.mp h with rfl | h; exact ⟨hini, wl_good _ hini⟩; cases h) (wl_inW hcd w)) rfl rfl rfl hd hR) ⟨fun a U g mk q => by obtain ⟨q0, q1, qP, qK, qD, qE⟩ := q; exact ⟨q0, q1, qP, va_K.moved (u := U) (U := U.calling g mk a) (Vm.Alike.refl U.vm) qK, qD, EV.same (s := U) (U := U.calling g mk a) rfl qE⟩, fun U hU hW => ⟨rfl, by rw [hU], by rw [hU]; exact hPc, va_K.moved hW.alike hK, hDc.weaken (fun _ _ _ _ => trivial), EV.pass hE hS hFc hW hU⟩⟩ rfl hAn hsz rfl (lv_room hrm) hdg ⟨Nat.zero_le _, Nat.zero_le _⟩) hS (fun q _ h => hFc q h) hFc (fun u t H1 locs1 ht hvm hw hB hz1 hk1 hS1 => ?_)
  obtain ⟨hP1, hK1, hD1⟩ := hB
  rw [ht] at hP1
  obtain ⟨hP2, hD2⟩ := sel_join hP hD hC hC' hRr hcov hdis hn1 hk1 hFc hP1 hD1
  exact kk H1 locs1 hP2 hD2 hS1
theorem callWVNv {own C host : String} {idx n b maxL f lc : Nat} {y : MethodName} {bytes : ByteArray} {ret : Option FieldType} {As : List Value} {ccs ccs' : List va_W} {isC isR : List Nat} (hx : p.tables.exec = Jvm.exec) (hb : c.code = cc) (hml : c.maxLocals = nL) (hown : s.vm.findClass own = some m.cls) (hts : ∀ w ∈ WL, w.before args s = true) (hM : MetV l y bytes maxL ret f lc G cy ev (.ref b :: As) (wj ccs) (wj ccs')) (hlk : va_Nw (.methodLinkNest own idx y host) s) (hins : Cond.instanceMethod y ∈ WL) (hsel : Cond.selects C y y ∈ WL) (hini : Cond.initialized y.cls ∈ WL) (hcd : Cond.code y bytes maxL ret ∈ WL) (hd : y.cls ≠ "java/lang/invoke/MethodHandle" ∧ y.cls ≠ "java/lang/invoke/VarHandle" ∧ (parseMethodDescriptor y.desc).map (fun d => d.parameters.length) = some n) (hR : f + 1 ≤ R.frames ∧ 8 + (maxL + 11) + lc ≤ R.locals) (hK : va_K G vwCl (tysX cy) s) (hP : va_P G vwCl (wj cs) H) (hD : va_D A (wj cs)) (hS : va_S A s.heap H locs) (hA : ∀ q : Nat, s.heap.size ≤ q → A q) (hE : EV ev A s s.heap) (hC : isC.map (fun i => cs[i]?) = ccs.map some) (hC' : isC.map (fun i => cs'[i]?) = ccs'.map some) (hRr : isR.map (fun i => cs'[i]?) = isR.map (fun i => cs[i]?)) (hcov : ∀ i, i < cs'.length → i ∈ isC ∨ i ∈ isR) (hdis : ∀ i ∈ isR, i ∉ isC) (hn1 : va_nd isC = true) (hrv : ∃ cell : Cell, H[b]? = some cell ∧ cell.vm.isStatics = false ∧ s.vm.findClass C = some cell.cls) (hst : st = As.reverse ++ .ref b :: rest) (hAn : As.length = n) (hsz : ls.size = nL) (hrm : (rest.map fun v => v.category).sum ≤ 8) (hdg : decode cc pc = .ok (.invokevirtual idx, 3)) (kk : ∀ (H1 : Heap) (locs1 : List Loc), va_P G vwCl (wj cs') H1 → va_D A (wj cs') → va_S A s.heap H1 locs1 → W p l e R s m args below meth c H1 locs1 0 0 Q (F0 m (pc + 3) ls rest)) : W p l e R s m args below meth c H locs 0 0 Q (F0 m pc ls st) := by
  subst hst
  have hPc : va_P G vwCl (wj ccs) H := sel_P hC hP
  have hDc : va_D A (wj ccs) := sel_D hC hn1 hD
  have hFc := sel_F hC hD hS hA
  refine va_callv (va_runVN (As := As) (rest := rest) ⟨hx, hb, hml, hown, hts⟩ (hM H.size) ⟨va_cnB n hts (wl_inW hcd) rfl rfl rfl hlk (hts _ hini) hd hR, hts _ hins, hts _ hsel⟩ ⟨fun a U g mk q => by obtain ⟨q0, q1, qP, qK, qD, qE⟩ := q; exact ⟨q0, q1, qP, va_K.moved (u := U) (U := U.calling g mk a) (Vm.Alike.refl U.vm) qK, qD, EV.same (s := U) (U := U.calling g mk a) rfl qE⟩, hrv, fun U hU hW => ⟨rfl, by rw [hU], by rw [hU]; exact hPc, va_K.moved hW.alike hK, hDc.weaken (fun _ _ _ _ => trivial), EV.pass hE hS hFc hW hU⟩⟩ rfl hAn hsz rfl (lv_room hrm) hdg ⟨Nat.zero_le _, Nat.zero_le _⟩) hS (fun q _ h => hFc q h) hFc (fun u t H1 locs1 ht hvm hw hB hz1 hk1 hS1 => ?_)
  obtain ⟨hP1, hK1, hD1⟩ := hB
  rw [ht] at hP1
  obtain ⟨hP2, hD2⟩ := sel_join hP hD hC hC' hRr hcov hdis hn1 hk1 hFc hP1 hD1
  exact kk H1 locs1 hP2 hD2 hS1
theorem callWSNv {own host : String} {idx n maxL f lc : Nat} {y : MethodName} {bytes : ByteArray} {ret : Option FieldType} {As : List Value} {ccs ccs' : List va_W} {isC isR : List Nat} (hx : p.tables.exec = Jvm.exec) (hb : c.code = cc) (hml : c.maxLocals = nL) (hown : s.vm.findClass own = some m.cls) (hts : ∀ w ∈ WL, w.before args s = true) (hM : MetV l y bytes maxL ret f lc G cy ev As (wj ccs) (wj ccs')) (hlk : va_Nw (.methodLinkNest own idx y host) s) (hstt : Cond.static y ∈ WL) (hini : Cond.initialized y.cls ∈ WL) (hcd : Cond.code y bytes maxL ret ∈ WL) (hd : y.cls ≠ "java/lang/invoke/MethodHandle" ∧ y.cls ≠ "java/lang/invoke/VarHandle" ∧ (parseMethodDescriptor y.desc).map (fun d => d.parameters.length) = some n) (hR : f + 1 ≤ R.frames ∧ 8 + (maxL + 11) + lc ≤ R.locals) (hK : va_K G vwCl (tysX cy) s) (hP : va_P G vwCl (wj cs) H) (hD : va_D A (wj cs)) (hS : va_S A s.heap H locs) (hA : ∀ q : Nat, s.heap.size ≤ q → A q) (hE : EV ev A s s.heap) (hC : isC.map (fun i => cs[i]?) = ccs.map some) (hC' : isC.map (fun i => cs'[i]?) = ccs'.map some) (hRr : isR.map (fun i => cs'[i]?) = isR.map (fun i => cs[i]?)) (hcov : ∀ i, i < cs'.length → i ∈ isC ∨ i ∈ isR) (hdis : ∀ i ∈ isR, i ∉ isC) (hn1 : va_nd isC = true) (hst : st = As.reverse ++ rest) (hAn : As.length = n) (hsz : ls.size = nL) (hrm : (rest.map fun v => v.category).sum ≤ 8) (hdg : decode cc pc = .ok (.invokestatic idx, 3)) (kk : ∀ (H1 : Heap) (locs1 : List Loc), va_P G vwCl (wj cs') H1 → va_D A (wj cs') → va_S A s.heap H1 locs1 → W p l e R s m args below meth c H1 locs1 0 0 Q (F0 m (pc + 3) ls rest)) : W p l e R s m args below meth c H locs 0 0 Q (F0 m pc ls st) := by
  subst hst
  have hPc : va_P G vwCl (wj ccs) H := sel_P hC hP
  have hDc : va_D A (wj ccs) := sel_D hC hn1 hD
  have hFc := sel_F hC hD hS hA
  refine va_callv (va_runSN (As := As) (rest := rest) ⟨hx, hb, hml, hown, hts⟩ (hM H.size) ⟨va_cnB n hts (wl_inW hcd) rfl rfl rfl hlk (hts _ hini) hd hR, hts _ hstt, trivial⟩ ⟨fun a U g mk q => by obtain ⟨q0, q1, qP, qK, qD, qE⟩ := q; exact ⟨q0, q1, qP, va_K.moved (u := U) (U := U.calling g mk a) (Vm.Alike.refl U.vm) qK, qD, EV.same (s := U) (U := U.calling g mk a) rfl qE⟩, fun U hU hW => ⟨rfl, by rw [hU], by rw [hU]; exact hPc, va_K.moved hW.alike hK, hDc.weaken (fun _ _ _ _ => trivial), EV.pass hE hS hFc hW hU⟩⟩ rfl hAn hsz rfl (lv_room hrm) hdg ⟨Nat.zero_le _, Nat.zero_le _⟩) hS (fun q _ h => hFc q h) hFc (fun u t H1 locs1 ht hvm hw hB hz1 hk1 hS1 => ?_)
  obtain ⟨hP1, hK1, hD1⟩ := hB
  rw [ht] at hP1
  obtain ⟨hP2, hD2⟩ := sel_join hP hD hC hC' hRr hcov hdis hn1 hk1 hFc hP1 hD1
  exact kk H1 locs1 hP2 hD2 hS1
theorem callWIv {own : String} {idx n b maxL f lc : Nat} {y : MethodName} {bytes : ByteArray} {ret : Option FieldType} {As : List Value} {ccs ccs' : List va_W} {isC isR : List Nat} (hx : p.tables.exec = Jvm.exec) (hb : c.code = cc) (hml : c.maxLocals = nL) (hown : s.vm.findClass own = some m.cls) (hts : ∀ w ∈ WL, w.before args s = true) (hM : MetV l y bytes maxL none f lc G cy ev (.ref b :: As) (wj ccs) (wj ccs')) (hlk : Cond.methodLink own idx y ∈ WL) (hins : Cond.instanceMethod y ∈ WL) (hini : Cond.initialized y.cls ∈ WL) (hcd : Cond.code y bytes maxL none ∈ WL) (hd : y.cls ≠ "java/lang/invoke/MethodHandle" ∧ y.cls ≠ "java/lang/invoke/VarHandle" ∧ (parseMethodDescriptor y.desc).map (fun d => d.parameters.length) = some n) (hnm : y.name = "<init>") (hR : f + 1 ≤ R.frames ∧ 8 + (maxL + 11) + lc ≤ R.locals) (hK : va_K G vwCl (tysX cy) s) (hP : va_P G vwCl (wj cs) H) (hD : va_D A (wj cs)) (hS : va_S A s.heap H locs) (hA : ∀ q : Nat, s.heap.size ≤ q → A q) (hE : EV ev A s s.heap) (hC : isC.map (fun i => cs[i]?) = ccs.map some) (hC' : isC.map (fun i => cs'[i]?) = ccs'.map some) (hRr : isR.map (fun i => cs'[i]?) = isR.map (fun i => cs[i]?)) (hcov : ∀ i, i < cs'.length → i ∈ isC ∨ i ∈ isR) (hdis : ∀ i ∈ isR, i ∉ isC) (hn1 : va_nd isC = true) (hst : st = As.reverse ++ .ref b :: rest) (hAn : As.length = n) (hsz : ls.size = nL) (hrm : (rest.map fun v => v.category).sum ≤ 8) (hdg : decode cc pc = .ok (.invokespecial idx, 3)) (kk : ∀ (H1 : Heap) (locs1 : List Loc), va_P G vwCl (wj cs') H1 → va_D A (wj cs') → va_S A s.heap H1 locs1 → W p l e R s m args below meth c H1 locs1 0 0 Q (F0 m (pc + 3) ls rest)) : W p l e R s m args below meth c H locs 0 0 Q (F0 m pc ls st) := by
  subst hst
  have hPc : va_P G vwCl (wj ccs) H := sel_P hC hP
  have hDc : va_D A (wj ccs) := sel_D hC hn1 hD
  have hFc := sel_F hC hD hS hA
  refine va_callv (va_runI (As := As) (rest := rest) ⟨hx, hb, hml, hown, hts⟩ (hM H.size) (cwI n hts (wl_inW hcd) rfl rfl rfl (hts _ hini) (hts _ hlk) (hts _ hins) hnm hd hR) ⟨fun a U g mk q => by obtain ⟨q0, q1, qP, qK, qD, qE⟩ := q; exact ⟨q0, q1, qP, va_K.moved (u := U) (U := U.calling g mk a) (Vm.Alike.refl U.vm) qK, qD, EV.same (s := U) (U := U.calling g mk a) rfl qE⟩, fun U hU hW => ⟨rfl, by rw [hU], by rw [hU]; exact hPc, va_K.moved hW.alike hK, hDc.weaken (fun _ _ _ _ => trivial), EV.pass hE hS hFc hW hU⟩⟩ rfl hAn hsz rfl (lv_room hrm) hdg ⟨Nat.zero_le _, Nat.zero_le _⟩) hS (fun q _ h => hFc q h) hFc (fun u t H1 locs1 ht hvm hw hB hz1 hk1 hS1 => ?_)
  obtain ⟨hP1, hK1, hD1⟩ := hB
  rw [ht] at hP1
  obtain ⟨hP2, hD2⟩ := sel_join hP hD hC hC' hRr hcov hdis hn1 hk1 hFc hP1 hD1
  exact kk H1 locs1 hP2 hD2 hS1
theorem callWINv {own host : String} {idx n b maxL f lc : Nat} {y : MethodName} {bytes : ByteArray} {ret : Option FieldType} {As : List Value} {ccs ccs' : List va_W} {isC isR : List Nat} (hx : p.tables.exec = Jvm.exec) (hb : c.code = cc) (hml : c.maxLocals = nL) (hown : s.vm.findClass own = some m.cls) (hts : ∀ w ∈ WL, w.before args s = true) (hM : MetV l y bytes maxL none f lc G cy ev (.ref b :: As) (wj ccs) (wj ccs')) (hlk : va_Nw (.methodLinkNest own idx y host) s) (hins : Cond.instanceMethod y ∈ WL) (hini : Cond.initialized y.cls ∈ WL) (hcd : Cond.code y bytes maxL none ∈ WL) (hd : y.cls ≠ "java/lang/invoke/MethodHandle" ∧ y.cls ≠ "java/lang/invoke/VarHandle" ∧ (parseMethodDescriptor y.desc).map (fun d => d.parameters.length) = some n) (hnm : y.name = "<init>") (hR : f + 1 ≤ R.frames ∧ 8 + (maxL + 11) + lc ≤ R.locals) (hK : va_K G vwCl (tysX cy) s) (hP : va_P G vwCl (wj cs) H) (hD : va_D A (wj cs)) (hS : va_S A s.heap H locs) (hA : ∀ q : Nat, s.heap.size ≤ q → A q) (hE : EV ev A s s.heap) (hC : isC.map (fun i => cs[i]?) = ccs.map some) (hC' : isC.map (fun i => cs'[i]?) = ccs'.map some) (hRr : isR.map (fun i => cs'[i]?) = isR.map (fun i => cs[i]?)) (hcov : ∀ i, i < cs'.length → i ∈ isC ∨ i ∈ isR) (hdis : ∀ i ∈ isR, i ∉ isC) (hn1 : va_nd isC = true) (hst : st = As.reverse ++ .ref b :: rest) (hAn : As.length = n) (hsz : ls.size = nL) (hrm : (rest.map fun v => v.category).sum ≤ 8) (hdg : decode cc pc = .ok (.invokespecial idx, 3)) (kk : ∀ (H1 : Heap) (locs1 : List Loc), va_P G vwCl (wj cs') H1 → va_D A (wj cs') → va_S A s.heap H1 locs1 → W p l e R s m args below meth c H1 locs1 0 0 Q (F0 m (pc + 3) ls rest)) : W p l e R s m args below meth c H locs 0 0 Q (F0 m pc ls st) := by
  subst hst
  have hPc : va_P G vwCl (wj ccs) H := sel_P hC hP
  have hDc : va_D A (wj ccs) := sel_D hC hn1 hD
  have hFc := sel_F hC hD hS hA
  refine va_callv (va_runIN (As := As) (rest := rest) ⟨hx, hb, hml, hown, hts⟩ (hM H.size) ⟨va_cnB n hts (wl_inW hcd) rfl rfl rfl hlk (hts _ hini) hd hR, hnm, hts _ hins⟩ ⟨fun a U g mk q => by obtain ⟨q0, q1, qP, qK, qD, qE⟩ := q; exact ⟨q0, q1, qP, va_K.moved (u := U) (U := U.calling g mk a) (Vm.Alike.refl U.vm) qK, qD, EV.same (s := U) (U := U.calling g mk a) rfl qE⟩, fun U hU hW => ⟨rfl, by rw [hU], by rw [hU]; exact hPc, va_K.moved hW.alike hK, hDc.weaken (fun _ _ _ _ => trivial), EV.pass hE hS hFc hW hU⟩⟩ rfl hAn hsz rfl (lv_room hrm) hdg ⟨Nat.zero_le _, Nat.zero_le _⟩) hS (fun q _ h => hFc q h) hFc (fun u t H1 locs1 ht hvm hw hB hz1 hk1 hS1 => ?_)
  obtain ⟨hP1, hK1, hD1⟩ := hB
  rw [ht] at hP1
  obtain ⟨hP2, hD2⟩ := sel_join hP hD hC hC' hRr hcov hdis hn1 hk1 hFc hP1 hD1
  exact kk H1 locs1 hP2 hD2 hS1
end WJC
