theorem cov_of {cs : List va_W} {isC isR : List Nat} {n : Nat} (hn : cs.length = n) (h : ∀ i, i < n → i ∈ isC ∨ i ∈ isR) : ∀ i, i < cs.length → i ∈ isC ∨ i ∈ isR := fun i hi => h i (hn ▸ hi)
theorem recvW {s : State} {H : Heap} {G : va_G} {cs : List va_W} {a ci k : Nat} {q : vw_C} {fs : List Value} {cc0 : va_W} {tys : List (ClassId × FieldType)} (hK : va_K G vwCl tys s) (hP : va_P G vwCl (wj cs) H) (hi : cs[ci]? = some cc0) (he : cc0[0]? = some (a, .inr (k, fs))) (hc : vwCl[k]? = some q) : ∃ cell : Cell, H[a]? = some cell ∧ cell.vm.isStatics = false ∧ s.vm.findClass q.1 = some cell.cls := va_recv hK hP hc (wj_get hi he)
theorem cpW {p : Program} {l : Launch} {e : Env} {R : Room} {s : State} {m : MethodId} {args : Array Value} {below : List Frame} {meth : Method} {c : Code} {H : Heap} {locs : List Loc} {Q : State → Prop} {cc : ByteArray} {pc : Nat} {ls : Array Slot} {rest : List Value} {A : Nat → Prop} {G : va_G} {cy : Nat → ClassId} {cs cs' : List va_W} {ci k0 cj k1 : Nat} {ca cb cb' : va_W} {a b n0 n1 sN dN nN : Nat} {f g f' g' : Nat → Int32} {own : String} {idx : Nat} {sp dp n : Int32} (hx : p.tables.exec = Jvm.exec) (hb : c.code = cc) (hml : c.maxLocals = ls.size) (hown : s.vm.findClass own = some m.cls) (hlk : (Cond.methodLink own idx arraycopyName).before args s = true) (hts : ∀ w ∈ WL, w.before args s = true) (hK : va_K G vwCl (tysX cy) s) (hP : va_P G vwCl (wj cs) H) (hD : va_D A (wj cs)) (hS : va_S A s.heap H locs) (hi : cs[ci]? = some ca) (he : ca[k0]? = some (a, .inl (cy 1, n0, .inl f'))) (hj : cs[cj]? = some cb) (hf : cb[k1]? = some (b, .inl (cy 1, n1, .inl g'))) (hf' : f' = f) (hg' : g' = g) (h1 : ¬ sp < 0) (h2 : ¬ dp < 0) (h3 : ¬ n < 0) (h4 : sp.toNatClampNeg = sN ∧ dp.toNatClampNeg = dN ∧ n.toNatClampNeg = nN) (h5 : sN + nN ≤ n0 ∧ dN + nN ≤ n1) (hfr : 1 ≤ R.frames) (hlo : (rest.map fun v => v.category).sum + (nativeFrameWords "java/lang/System" "arraycopy" 5 + 11) ≤ R.locals) (hw : cb.set k1 (b, .inl (cy 1, n1, .inl (va_cpy f g sN dN nN))) = cb') (hcs : cs.set cj cb' = cs') (hdg : decode cc pc = .ok (.invokestatic idx, 3)) (kk : ∀ (H1 : Heap) (locs1 : List Loc), va_P G vwCl (wj cs') H1 → va_D A (wj cs') → va_S A s.heap H1 locs1 → W p l e R s m args below meth c H1 locs1 0 0 Q (F0 m (pc + 3) ls rest)) : W p l e R s m args below meth c H locs 0 0 Q (F0 m pc ls (.int n :: .int dp :: .ref b :: .int sp :: .ref a :: rest)) := by
  obtain ⟨rfl, rfl, rfl⟩ := h4
  subst hw
  subst hcs
  subst hf'
  subst hg'
  refine va_copyi (ty := .int) hx hb hml hown hlk (hts _ wm_5_3) (hts _ wm_5_4) (hts _ wm_5_5) hK hP hD hS _ _ 1 1 (wj_get hi he) (wj_get hj hf) rfl rfl rfl h1 h2 h3 h5.1 h5.2 (fun i _ => rfl) hfr hlo hdg ?_
  rw [wj_set hj (List.getElem?_eq_some_iff.mp hf).1]
  exact kk
theorem hds_X9_put : yX9_put.cls ≠ "java/lang/invoke/MethodHandle" ∧ yX9_put.cls ≠ "java/lang/invoke/VarHandle" ∧ (parseMethodDescriptor yX9_put.desc).map (fun d => d.parameters.length) = some 3 := ⟨by decide +kernel, by decide +kernel, by decide +kernel⟩
theorem hd_X9_put : yX9_put.cls = RX9 ∧ yX9_put.cls ≠ "java/lang/invoke/MethodHandle" ∧ yX9_put.cls ≠ "java/lang/invoke/VarHandle" ∧ (parseMethodDescriptor yX9_put.desc).map (fun d => d.parameters.length) = some 3 := ⟨rfl, hds_X9_put⟩
def f_X9_put (K : VV) (a1 : Int32) (a2 : Int32) (a3 : Int32) : Option (VV) :=
  if (701 : Int32) ≤ K.1 3 then some K else gin (K.1 3) 701 (gin (K.1 3) 701 (gin (K.1 3) 701 (some (si (sr (sr (sr K 0 ((K.1 3).toNatClampNeg) a1) 1 ((K.1 3).toNatClampNeg) a2) 2 ((K.1 3).toNatClampNeg) a3) 3 ((K.1 3) + 1)))))
set_option maxHeartbeats 4000000 in
set_option maxRecDepth 100000 in
theorem k_X9_put (l : Launch) (G : va_G) (cy : Nat → ClassId) (ev : Nat → Nat) (adK : Nat → Nat) (K : VV) (a1 : Int32) (a2 : Int32) (a3 : Int32) (res : VV) (h : f_X9_put K a1 a2 a3 = some res) : MetV l yX9_put cX9_put 4 none 0 0 G cy ev [.ref (adK 0), .int a1, .int a2, .int a3] (wj [cX9 cy adK K]) (wj [cX9 cy adK res]) := by
  refine MetQ.start (by decide +kernel) (Nat.le_of_ble_eq_true rfl) (fun p e s m args below meth c A ls hx hb hr hml hown hts hlocks hK hP hD hA hl hE => ?_)
  have hS : va_S A s.heap s.heap [] := va_S.rf
  have hown : s.vm.findClass RX9 = some m.cls := hown
  have hl : lv_has ls 4 [(0, .ref (adK 0)), (1, .int a1), (2, .int a2), (3, .int a3)] := hl
  delta f_X9_put at h
  refine lv_aload_n hx hb dX9_put_0 rfl (lv_at hl 0 rfl) ?_
  refine go_9_21 (ci := 0) (x := K.1 3) hx hb hts hown hK hE hP rfl rfl dX9_put_1 ?_
  refine lv_aload_n hx hb dX9_put_4 rfl (lv_at hl 0 rfl) ?_
  refine go_9_9 (ci := 0) hx hb hts hown hK hE hP rfl dX9_put_5 ?_
  refine alW (v := 701) (tk := 1) (ci := 0) (k0 := 1) hx hb hK hP rfl cX9_a0 rfl (by decide) dX9_put_8 ?_
  refine lv_icmp_ge (tgt := 52) hx hb dX9_put_9 (by decide) (fun c9 => ?_) (fun c9 => ?_)
  · replace h := (br h).1 c9
    exact retV (fw := fun q => wj [cX9 cy adK q]) h hx hb hr hlocks hK hP hD hS dX9_put_52
  · replace h := (br h).2 c9
    refine lv_aload_n hx hb dX9_put_12 rfl (lv_at hl 0 rfl) ?_
    refine go_9_9 (ci := 0) hx hb hts hown hK hE hP rfl dX9_put_13 ?_
    refine lv_aload_n hx hb dX9_put_16 rfl (lv_at hl 0 rfl) ?_
    refine go_9_21 (ci := 0) (x := K.1 3) hx hb hts hown hK hE hP rfl rfl dX9_put_17 ?_
    refine lv_iload_n hx hb dX9_put_20 rfl (lv_at hl 1 rfl) ?_
    replace h := gin_inv h
    obtain ⟨h9, h⟩ := h
    refine stWI (ci := 0) (k0 := 1) (j := (K.1 3).toNatClampNeg) (cs' := [cX9 cy adK (sr K 0 ((K.1 3).toNatClampNeg) a1)]) hx hb hK hP hD hS rfl cX9_a0 h9 rfl cX9_s0 rfl dX9_put_21 (fun H locs hP hD hS => ?_)
    refine lv_aload_n hx hb dX9_put_22 rfl (lv_at hl 0 rfl) ?_
    refine go_9_15 (ci := 0) hx hb hts hown hK hE hP rfl dX9_put_23 ?_
    refine lv_aload_n hx hb dX9_put_26 rfl (lv_at hl 0 rfl) ?_
    refine go_9_21 (ci := 0) (x := K.1 3) hx hb hts hown hK hE hP rfl rfl dX9_put_27 ?_
    refine lv_iload_n hx hb dX9_put_30 rfl (lv_at hl 2 rfl) ?_
    replace h := gin_inv h
    obtain ⟨h9, h⟩ := h
    refine stWI (ci := 0) (k0 := 2) (j := (K.1 3).toNatClampNeg) (cs' := [cX9 cy adK (sr (sr K 0 ((K.1 3).toNatClampNeg) a1) 1 ((K.1 3).toNatClampNeg) a2)]) hx hb hK hP hD hS rfl cX9_a1 h9 rfl cX9_s1 rfl dX9_put_31 (fun H locs hP hD hS => ?_)
    refine lv_aload_n hx hb dX9_put_32 rfl (lv_at hl 0 rfl) ?_
    refine go_9_18 (ci := 0) hx hb hts hown hK hE hP rfl dX9_put_33 ?_
    refine lv_aload_n hx hb dX9_put_36 rfl (lv_at hl 0 rfl) ?_
    refine go_9_21 (ci := 0) (x := K.1 3) hx hb hts hown hK hE hP rfl rfl dX9_put_37 ?_
    refine lv_iload_n hx hb dX9_put_40 rfl (lv_at hl 3 rfl) ?_
    replace h := gin_inv h
    obtain ⟨h9, h⟩ := h
    refine stWI (ci := 0) (k0 := 3) (j := (K.1 3).toNatClampNeg) (cs' := [cX9 cy adK (sr (sr (sr K 0 ((K.1 3).toNatClampNeg) a1) 1 ((K.1 3).toNatClampNeg) a2) 2 ((K.1 3).toNatClampNeg) a3)]) hx hb hK hP hD hS rfl cX9_a2 h9 rfl cX9_s2 rfl dX9_put_41 (fun H locs hP hD hS => ?_)
    refine lv_aload_n hx hb dX9_put_42 rfl (lv_at hl 0 rfl) ?_
    refine lv_dup hx hb dX9_put_43 rfl ?_
    refine go_9_21 (ci := 0) (x := K.1 3) hx hb hts hown hK hE hP rfl rfl dX9_put_44 ?_
    refine lv_iconst (v := 1) hx hb dX9_put_47 (by decide) ?_
    refine lv_iadd hx hb dX9_put_48 ?_
    refine po_9_21 (ci := 0) (cs' := [cX9 cy adK (si (sr (sr (sr K 0 ((K.1 3).toNatClampNeg) a1) 1 ((K.1 3).toNatClampNeg) a2) 2 ((K.1 3).toNatClampNeg) a3) 3 ((K.1 3) + 1))]) hx hb hts hown hK hE hP hD hS rfl rfl dX9_put_49 (fun H locs hP hD hS => ?_)
    exact retV (fw := fun q => wj [cX9 cy adK q]) h hx hb hr hlocks hK hP hD hS dX9_put_52
theorem hds_X9_isDigit : yX9_isDigit.cls ≠ "java/lang/invoke/MethodHandle" ∧ yX9_isDigit.cls ≠ "java/lang/invoke/VarHandle" ∧ (parseMethodDescriptor yX9_isDigit.desc).map (fun d => d.parameters.length) = some 1 := ⟨by decide +kernel, by decide +kernel, by decide +kernel⟩
theorem hd_X9_isDigit : yX9_isDigit.cls = RX9 ∧ yX9_isDigit.cls ≠ "java/lang/invoke/MethodHandle" ∧ yX9_isDigit.cls ≠ "java/lang/invoke/VarHandle" ∧ (parseMethodDescriptor yX9_isDigit.desc).map (fun d => d.parameters.length) = some 1 := ⟨rfl, hds_X9_isDigit⟩
def f_X9_isDigit (a1 : Int32) : Option (Int32) :=
  if a1 < 48 then some 0 else if (57 : Int32) < a1 then some 0 else some 1
set_option maxHeartbeats 4000000 in
set_option maxRecDepth 100000 in
theorem k_X9_isDigit (l : Launch) (G : va_G) (cy : Nat → ClassId) (ev : Nat → Nat) (w : va_W)  (a1 : Int32) (res : Int32) (h : f_X9_isDigit a1 = some res) : MetI l yX9_isDigit cX9_isDigit 1 (some .boolean) 0 0 G cy ev [.int a1] (w) res (w) := by
  refine MetQ.start (by decide +kernel) (Nat.le_of_ble_eq_true rfl) (fun p e s m args below meth c A ls hx hb hr hml hown hts hlocks hK hP hD hA hl hE => ?_)
  have hS : va_S A s.heap s.heap [] := va_S.rf
  have hown : s.vm.findClass RX9 = some m.cls := hown
  have hl : lv_has ls 1 [(0, .int a1)] := hl
  delta f_X9_isDigit at h
  refine lv_iload_n hx hb dX9_isDigit_0 rfl (lv_at hl 0 rfl) ?_
  refine lv_bipush (v := 48) hx hb dX9_isDigit_1 (by decide) ?_
  refine lv_icmp_lt (tgt := 16) hx hb dX9_isDigit_3 (by decide) (fun c9 => ?_) (fun c9 => ?_)
  · replace h := (br h).1 c9
    refine lv_iconst (v := 0) hx hb dX9_isDigit_16 (by decide) ?_
    exact retZ (fr := fun q => q) (fw := fun _ => w) h hx hb hr narZ0 hlocks hK hP hD hS dX9_isDigit_17
  · replace h := (br h).2 c9
    refine lv_iload_n hx hb dX9_isDigit_6 rfl (lv_at hl 0 rfl) ?_
    refine lv_bipush (v := 57) hx hb dX9_isDigit_7 (by decide) ?_
    refine lv_icmp_gt (tgt := 16) hx hb dX9_isDigit_9 (by decide) (fun c9 => ?_) (fun c9 => ?_)
    · replace h := (br h).1 c9
      refine lv_iconst (v := 0) hx hb dX9_isDigit_16 (by decide) ?_
      exact retZ (fr := fun q => q) (fw := fun _ => w) h hx hb hr narZ0 hlocks hK hP hD hS dX9_isDigit_17
    · replace h := (br h).2 c9
      refine lv_iconst (v := 1) hx hb dX9_isDigit_12 (by decide) ?_
      refine lv_goto (tgt := 17) hx hb dX9_isDigit_13 (by decide) ?_
      exact retZ (fr := fun q => q) (fw := fun _ => w) h hx hb hr narZ1 hlocks hK hP hD hS dX9_isDigit_17
theorem hds_X9_isLetter : yX9_isLetter.cls ≠ "java/lang/invoke/MethodHandle" ∧ yX9_isLetter.cls ≠ "java/lang/invoke/VarHandle" ∧ (parseMethodDescriptor yX9_isLetter.desc).map (fun d => d.parameters.length) = some 1 := ⟨by decide +kernel, by decide +kernel, by decide +kernel⟩
theorem hd_X9_isLetter : yX9_isLetter.cls = RX9 ∧ yX9_isLetter.cls ≠ "java/lang/invoke/MethodHandle" ∧ yX9_isLetter.cls ≠ "java/lang/invoke/VarHandle" ∧ (parseMethodDescriptor yX9_isLetter.desc).map (fun d => d.parameters.length) = some 1 := ⟨rfl, hds_X9_isLetter⟩
def f_X9_isLetter (a1 : Int32) : Option (Int32) :=
  if a1 < 97 then some 0 else if (122 : Int32) < a1 then some 0 else some 1
set_option maxHeartbeats 4000000 in
set_option maxRecDepth 100000 in
theorem k_X9_isLetter (l : Launch) (G : va_G) (cy : Nat → ClassId) (ev : Nat → Nat) (w : va_W)  (a1 : Int32) (res : Int32) (h : f_X9_isLetter a1 = some res) : MetI l yX9_isLetter cX9_isLetter 1 (some .boolean) 0 0 G cy ev [.int a1] (w) res (w) := by
  refine MetQ.start (by decide +kernel) (Nat.le_of_ble_eq_true rfl) (fun p e s m args below meth c A ls hx hb hr hml hown hts hlocks hK hP hD hA hl hE => ?_)
  have hS : va_S A s.heap s.heap [] := va_S.rf
  have hown : s.vm.findClass RX9 = some m.cls := hown
  have hl : lv_has ls 1 [(0, .int a1)] := hl
  delta f_X9_isLetter at h
  refine lv_iload_n hx hb dX9_isLetter_0 rfl (lv_at hl 0 rfl) ?_
  refine lv_bipush (v := 97) hx hb dX9_isLetter_1 (by decide) ?_
  refine lv_icmp_lt (tgt := 16) hx hb dX9_isLetter_3 (by decide) (fun c9 => ?_) (fun c9 => ?_)
  · replace h := (br h).1 c9
    refine lv_iconst (v := 0) hx hb dX9_isLetter_16 (by decide) ?_
    exact retZ (fr := fun q => q) (fw := fun _ => w) h hx hb hr narZ0 hlocks hK hP hD hS dX9_isLetter_17
  · replace h := (br h).2 c9
    refine lv_iload_n hx hb dX9_isLetter_6 rfl (lv_at hl 0 rfl) ?_
    refine lv_bipush (v := 122) hx hb dX9_isLetter_7 (by decide) ?_
    refine lv_icmp_gt (tgt := 16) hx hb dX9_isLetter_9 (by decide) (fun c9 => ?_) (fun c9 => ?_)
    · replace h := (br h).1 c9
      refine lv_iconst (v := 0) hx hb dX9_isLetter_16 (by decide) ?_
      exact retZ (fr := fun q => q) (fw := fun _ => w) h hx hb hr narZ0 hlocks hK hP hD hS dX9_isLetter_17
    · replace h := (br h).2 c9
      refine lv_iconst (v := 1) hx hb dX9_isLetter_12 (by decide) ?_
      refine lv_goto (tgt := 17) hx hb dX9_isLetter_13 (by decide) ?_
      exact retZ (fr := fun q => q) (fw := fun _ => w) h hx hb hr narZ1 hlocks hK hP hD hS dX9_isLetter_17
theorem hds_X9_takeNumber : yX9_takeNumber.cls ≠ "java/lang/invoke/MethodHandle" ∧ yX9_takeNumber.cls ≠ "java/lang/invoke/VarHandle" ∧ (parseMethodDescriptor yX9_takeNumber.desc).map (fun d => d.parameters.length) = some 3 := ⟨by decide +kernel, by decide +kernel, by decide +kernel⟩
theorem hd_X9_takeNumber : yX9_takeNumber.cls = RX9 ∧ yX9_takeNumber.cls ≠ "java/lang/invoke/MethodHandle" ∧ yX9_takeNumber.cls ≠ "java/lang/invoke/VarHandle" ∧ (parseMethodDescriptor yX9_takeNumber.desc).map (fun d => d.parameters.length) = some 3 := ⟨rfl, hds_X9_takeNumber⟩
def f_X9_takeNumber_b48 (N : Nat) (K : VV) (T : Nat → Int32) (x3 : Int32) (x4 : Int32) (x5 : Int32) : Option (Int32 × VV) :=
  bnd (f_X9_put K 2 x3 x4) (fun q4801 => some (x5, q4801))
def f_X9_takeNumber_s6 (N : Nat) (K : VV) (T : Nat → Int32) (x2 : Int32) (x3 : Int32) (x4 : Int32) (x5 : Int32) : Option (((Int32 × Int32 × VV) ⊕ (Int32 × VV))) :=
  if x2 ≤ x5 then inrO (f_X9_takeNumber_b48 N K T x3 x4 x5) else gin x5 700 (bnd (f_X9_isDigit (T x5.toNatClampNeg)) (fun q601 => if q601 = 0 then inrO (f_X9_takeNumber_b48 N K T x3 x4 x5) else gin x5 700 (some (.inl (jmin (((x4 * 10) + (T x5.toNatClampNeg)) - 48) 1000000, x5 + 1, K)))))
def f_X9_takeNumber (N : Nat) (K : VV) (T : Nat → Int32) (a2 : Int32) (a3 : Int32) : Option (Int32 × VV) :=
  itr (fun q : Int32 × Int32 × VV => f_X9_takeNumber_s6 N q.2.2 T a2 a3 q.1 q.2.1) N (0, a3, K)
set_option maxHeartbeats 4000000 in
set_option maxRecDepth 100000 in
theorem k_X9_takeNumber (l : Launch) (G : va_G) (cy : Nat → ClassId) (ev : Nat → Nat) (N : Nat) (adK : Nat → Nat) (K : VV) (adT : Nat) (T : Nat → Int32) (a2 : Int32) (a3 : Int32) (res : Int32 × VV) (h : f_X9_takeNumber N K T a2 a3 = some res) : MetI l yX9_takeNumber cX9_takeNumber 6 (some .int) 1 24 G cy ev [.ref (adK 0), .ref adT, .int a2, .int a3] (wj [cX9 cy adK K, [(adT, .inl (cy 0, 700, .inl T))]]) res.1 (wj [cX9 cy adK res.2, [(adT, .inl (cy 0, 700, .inl T))]]) := by
  refine MetQ.start (by decide +kernel) (Nat.le_of_ble_eq_true rfl) (fun p e s m args below meth c A ls hx hb hr hml hown hts hlocks hK hP hD hA hl hE => ?_)
  have hS : va_S A s.heap s.heap [] := va_S.rf
  have hown : s.vm.findClass RX9 = some m.cls := hown
  have hl : lv_has ls 6 [(0, .ref (adK 0)), (1, .ref adT), (2, .int a2), (3, .int a3)] := hl
  have B48 : ∀ (x3 : Int32) (x4 : Int32) (x5 : Int32) (K : VV) (H : Heap) (locs : List Loc) (ls : Array Slot), f_X9_takeNumber_b48 N K T x3 x4 x5 = some res → va_P G vwCl (wj [cX9 cy adK K, [(adT, .inl (cy 0, 700, .inl T))]]) H → va_D A (wj [cX9 cy adK K, [(adT, .inl (cy 0, 700, .inl T))]]) → va_S A s.heap H locs → lv_has ls 6 [(0, .ref (adK 0)), (3, .int x3), (4, .int x4), (5, .int x5)] → W p l e (rmX 1 24) s m args below meth c H locs 0 0 (MQ below (mQi (res.1) G cy A (wj [cX9 cy adK res.2, [(adT, .inl (cy 0, 700, .inl T))]])) args s 0 0 A) (F0 m 48 ls []) := by
    intro x3 x4 x5 K H locs ls h hP hD hS hl
    delta f_X9_takeNumber_b48 at h
    refine lv_aload_n hx hb dX9_takeNumber_48 rfl (lv_at hl 0 rfl) ?_
    refine lv_iconst (v := 2) hx hb dX9_takeNumber_49 (by decide) ?_
    refine lv_iload_n hx hb dX9_takeNumber_50 rfl (lv_at hl 1 rfl) ?_
    refine lv_iload hx hb dX9_takeNumber_51 (lv_at hl 2 rfl) ?_
    replace h := bd h
    obtain ⟨q4801, h4802, h⟩ := h
    refine callWVv (As := [.int 2, .int x3, .int x4]) (rest := []) (cs' := [cX9 cy adK q4801, [(adT, .inl (cy 0, 700, .inl T))]]) (isC := [0]) (isR := [1]) hx hb hml hown hts (k_X9_put l G cy ev adK K 2 x3 x4 q4801 h4802) wm_13_0 wm_13_1 wm_13_2 wm_3_15 wm_13_3 hd_X9_put ⟨by decide, by decide⟩ hK hP hD hS hA hE rfl rfl rfl (cov_of (n := 2) rfl (by decide)) (by decide) rfl (recvW (ci := 0) hK hP rfl cX9_o rfl) rfl rfl hl.1 (Nat.le_of_ble_eq_true rfl) dX9_takeNumber_53 (fun H locs hP hD hS => ?_)
    refine lv_iload hx hb dX9_takeNumber_56 (lv_at hl 3 rfl) ?_
    exact retI (fr := fun q => q.1) (fw := fun q => wj [cX9 cy adK q.2, [(adT, .inl (cy 0, 700, .inl T))]]) h hx hb hr hlocks hK hP hD hS dX9_takeNumber_58
  have L6 : ∀ (x2 : Int32) (x3 : Int32) (n : Nat) (x4 : Int32) (x5 : Int32) (K : VV) (H : Heap) (locs : List Loc) (ls : Array Slot), itr (fun q : Int32 × Int32 × VV => f_X9_takeNumber_s6 N q.2.2 T x2 x3 q.1 q.2.1) n (x4, x5, K) = some res → va_P G vwCl (wj [cX9 cy adK K, [(adT, .inl (cy 0, 700, .inl T))]]) H → va_D A (wj [cX9 cy adK K, [(adT, .inl (cy 0, 700, .inl T))]]) → va_S A s.heap H locs → lv_has ls 6 [(0, .ref (adK 0)), (1, .ref adT), (2, .int x2), (3, .int x3), (4, .int x4), (5, .int x5)] → W p l e (rmX 1 24) s m args below meth c H locs 0 0 (MQ below (mQi (res.1) G cy A (wj [cX9 cy adK res.2, [(adT, .inl (cy 0, 700, .inl T))]])) args s 0 0 A) (F0 m 6 ls []) := by
    intro x2 x3 n
    induction n with
    | zero => intro x4 x5 K H locs ls h; exact (itr_zero h).elim
    | succ n ih1 =>
      intro x4 x5 K H locs ls h hP hD hS hl
      obtain ⟨y1, h, hy1⟩ := itr_inv h
      have h : f_X9_takeNumber_s6 N K T x2 x3 x4 x5 = some y1 := h
      delta f_X9_takeNumber_s6 at h
      refine lv_iload hx hb dX9_takeNumber_6 (lv_at hl 5 rfl) ?_
      refine lv_iload_n hx hb dX9_takeNumber_8 rfl (lv_at hl 2 rfl) ?_
      refine lv_icmp_ge (tgt := 48) hx hb dX9_takeNumber_9 (by decide) (fun c9 => ?_) (fun c9 => ?_)
      · replace h := (br h).1 c9
        replace h := itr_exit h hy1
        exact B48 x3 x4 x5 K _ _ _ h hP hD hS (lv_sub hl [0, 3, 4, 5] rfl)
      · replace h := (br h).2 c9
        refine lv_aload_n hx hb dX9_takeNumber_12 rfl (lv_at hl 1 rfl) ?_
        refine lv_iload hx hb dX9_takeNumber_13 (lv_at hl 5 rfl) ?_
        replace h := gin_inv h
        obtain ⟨h9, h⟩ := h
        refine ldWB (ci := 1) (k0 := 0) (g := T) (j := x5.toNatClampNeg) hx hb hK hP rfl rfl rfl h9 rfl dX9_takeNumber_15 ?_
        replace h := bd h
        obtain ⟨q601, h602, h⟩ := h
        refine callSi0 (As := [.int (T x5.toNatClampNeg)]) (rest := []) hx hb hml hown hts (k_X9_isDigit l G cy ev (wj [cX9 cy adK K, [(adT, .inl (cy 0, 700, .inl T))]]) (T x5.toNatClampNeg) q601 h602) wm_12_16 wm_12_17 wm_3_15 wm_12_18 hd_X9_isDigit ⟨by decide, by decide⟩ hK hP hD hS hA hE rfl rfl hl.1 (Nat.le_of_ble_eq_true rfl) dX9_takeNumber_16 (fun H locs hP hD hS => ?_)
        refine lv_if_eq (tgt := 48) hx hb dX9_takeNumber_19 (by decide) (fun c9 => ?_) (fun c9 => ?_)
        · replace h := (br h).1 c9
          replace h := itr_exit h hy1
          exact B48 x3 x4 x5 K _ _ _ h hP hD hS (lv_sub hl [0, 3, 4, 5] rfl)
        · replace h := (br h).2 c9
          refine lv_iload hx hb dX9_takeNumber_22 (lv_at hl 4 rfl) ?_
          refine lv_bipush (v := 10) hx hb dX9_takeNumber_24 (by decide) ?_
          refine lv_imul hx hb dX9_takeNumber_26 ?_
          refine lv_aload_n hx hb dX9_takeNumber_27 rfl (lv_at hl 1 rfl) ?_
          refine lv_iload hx hb dX9_takeNumber_28 (lv_at hl 5 rfl) ?_
          replace h := gin_inv h
          obtain ⟨h9, h⟩ := h
          refine ldWB (ci := 1) (k0 := 0) (g := T) (j := x5.toNatClampNeg) hx hb hK hP rfl rfl rfl h9 rfl dX9_takeNumber_30 ?_
          refine lv_iadd hx hb dX9_takeNumber_31 ?_
          refine lv_bipush (v := 48) hx hb dX9_takeNumber_32 (by decide) ?_
          refine lv_isub hx hb dX9_takeNumber_34 ?_
          refine lv_ldc (v := (1000000)) hx hb hown (hts _ wm_12_23) dX9_takeNumber_35 ?_
          refine mmin hx hb (by rw [hml]; exact hl.1.symm) hown (hts _ wm_12_9) hts (by decide) (Nat.le_of_ble_eq_true rfl) dX9_takeNumber_37 ?_
          refine lv_istore (lv' := [(4, .int (jmin (((x4 * 10) + (T x5.toNatClampNeg)) - 48) 1000000)), (0, .ref (adK 0)), (1, .ref adT), (2, .int x2), (3, .int x3), (5, .int x5)]) hx hb dX9_takeNumber_40 hl (by decide) rfl (fun ls hl => ?_)
          refine lv_iinc (v := x5 + 1) (lv' := [(5, .int (x5 + 1)), (4, .int (jmin (((x4 * 10) + (T x5.toNatClampNeg)) - 48) 1000000)), (0, .ref (adK 0)), (1, .ref adT), (2, .int x2), (3, .int x3)]) hx hb dX9_takeNumber_42 hl (k := 5) rfl rfl (by decide) rfl (fun ls hl => ?_)
          refine lv_goto (tgt := 6) hx hb dX9_takeNumber_45 (by decide) ?_
          replace h := itr_back h hy1
          exact ih1 (jmin (((x4 * 10) + (T x5.toNatClampNeg)) - 48) 1000000) (x5 + 1) K _ _ _ h hP hD hS (lv_sub hl [2, 3, 4, 5, 1, 0] rfl)
  delta f_X9_takeNumber at h
  refine lv_iconst (v := 0) hx hb dX9_takeNumber_0 (by decide) ?_
  refine lv_istore (lv' := [(4, .int 0), (0, .ref (adK 0)), (1, .ref adT), (2, .int a2), (3, .int a3)]) hx hb dX9_takeNumber_1 hl (by decide) rfl (fun ls hl => ?_)
  refine lv_iload_n hx hb dX9_takeNumber_3 rfl (lv_at hl 4 rfl) ?_
  refine lv_istore (lv' := [(5, .int a3), (4, .int 0), (0, .ref (adK 0)), (1, .ref adT), (2, .int a2), (3, .int a3)]) hx hb dX9_takeNumber_4 hl (by decide) rfl (fun ls hl => ?_)
  exact L6 a2 a3 N 0 a3 K _ _ _ h hP hD hS (lv_sub hl [2, 3, 4, 5, 1, 0] rfl)
theorem hds_X9_packed : yX9_packed.cls ≠ "java/lang/invoke/MethodHandle" ∧ yX9_packed.cls ≠ "java/lang/invoke/VarHandle" ∧ (parseMethodDescriptor yX9_packed.desc).map (fun d => d.parameters.length) = some 3 := ⟨by decide +kernel, by decide +kernel, by decide +kernel⟩
theorem hd_X9_packed : yX9_packed.cls = RX9 ∧ yX9_packed.cls ≠ "java/lang/invoke/MethodHandle" ∧ yX9_packed.cls ≠ "java/lang/invoke/VarHandle" ∧ (parseMethodDescriptor yX9_packed.desc).map (fun d => d.parameters.length) = some 3 := ⟨rfl, hds_X9_packed⟩
def f_X9_packed_b47 (N : Nat) (T : Nat → Int32) (x1 : Int32) (x2 : Int32) (x3 : Int32) (x4 : Int32) : Option (((Int32 × Int32) ⊕ (Int32))) :=
  some (.inl (x3, x4 + 1))
def f_X9_packed_s5 (N : Nat) (T : Nat → Int32) (x1 : Int32) (x2 : Int32) (x3 : Int32) (x4 : Int32) : Option (((Int32 × Int32) ⊕ (Int32))) :=
  if (6 : Int32) ≤ x4 then inrO (some x3) else if x2 ≤ x1 + x4 then f_X9_packed_b47 N T x1 x2 (x3 <<< (5 &&& 31)) x4 else if (700 : Int32) ≤ x1 + x4 then f_X9_packed_b47 N T x1 x2 (x3 <<< (5 &&& 31)) x4 else gin (x1 + x4) 700 (f_X9_packed_b47 N T x1 x2 ((x3 <<< (5 &&& 31)) + (((T ((x1 + x4).toNatClampNeg)) - 97) + 1)) x4)
def f_X9_packed (N : Nat) (T : Nat → Int32) (a2 : Int32) (a3 : Int32) : Option (Int32) :=
  itr (fun q : Int32 × Int32 => f_X9_packed_s5 N T a2 a3 q.1 q.2) N (0, 0)
set_option maxHeartbeats 4000000 in
set_option maxRecDepth 100000 in
theorem k_X9_packed (l : Launch) (G : va_G) (cy : Nat → ClassId) (ev : Nat → Nat) (N : Nat) (adT : Nat) (T : Nat → Int32) (a2 : Int32) (a3 : Int32) (res : Int32) (h : f_X9_packed N T a2 a3 = some res) : MetI l yX9_packed cX9_packed 6 (some .int) 0 0 G cy ev [.ref adT, .int a2, .int a3] (wj [[(adT, .inl (cy 0, 700, .inl T))]]) res (wj [[(adT, .inl (cy 0, 700, .inl T))]]) := by
  refine MetQ.start (by decide +kernel) (Nat.le_of_ble_eq_true rfl) (fun p e s m args below meth c A ls hx hb hr hml hown hts hlocks hK hP hD hA hl hE => ?_)
  have hS : va_S A s.heap s.heap [] := va_S.rf
  have hown : s.vm.findClass RX9 = some m.cls := hown
  have hl : lv_has ls 6 [(0, .ref adT), (1, .int a2), (2, .int a3)] := hl
  have L5 : ∀ (x1 : Int32) (x2 : Int32) (n : Nat) (x3 : Int32) (x4 : Int32) (H : Heap) (locs : List Loc) (ls : Array Slot), itr (fun q : Int32 × Int32 => f_X9_packed_s5 N T x1 x2 q.1 q.2) n (x3, x4) = some res → va_P G vwCl (wj [[(adT, .inl (cy 0, 700, .inl T))]]) H → va_D A (wj [[(adT, .inl (cy 0, 700, .inl T))]]) → va_S A s.heap H locs → lv_has ls 6 [(0, .ref adT), (1, .int x1), (2, .int x2), (3, .int x3), (4, .int x4)] → W p l e (rmX 0 0) s m args below meth c H locs 0 0 (MQ below (mQi (res) G cy A (wj [[(adT, .inl (cy 0, 700, .inl T))]])) args s 0 0 A) (F0 m 5 ls []) := by
    intro x1 x2 n
    induction n with
    | zero => intro x3 x4 H locs ls h; exact (itr_zero h).elim
    | succ n ih1 =>
      intro x3 x4 H locs ls h hP hD hS hl
      obtain ⟨y1, h, hy1⟩ := itr_inv h
      have h : f_X9_packed_s5 N T x1 x2 x3 x4 = some y1 := h
      have B47 : ∀ (x3 : Int32) (x4 : Int32) (H : Heap) (locs : List Loc) (ls : Array Slot), f_X9_packed_b47 N T x1 x2 x3 x4 = some y1 → va_P G vwCl (wj [[(adT, .inl (cy 0, 700, .inl T))]]) H → va_D A (wj [[(adT, .inl (cy 0, 700, .inl T))]]) → va_S A s.heap H locs → lv_has ls 6 [(0, .ref adT), (1, .int x1), (2, .int x2), (3, .int x3), (4, .int x4)] → W p l e (rmX 0 0) s m args below meth c H locs 0 0 (MQ below (mQi (res) G cy A (wj [[(adT, .inl (cy 0, 700, .inl T))]])) args s 0 0 A) (F0 m 47 ls []) := by
        intro x3 x4 H locs ls h hP hD hS hl
        delta f_X9_packed_b47 at h
        refine lv_iinc (v := x4 + 1) (lv' := [(4, .int (x4 + 1)), (0, .ref adT), (1, .int x1), (2, .int x2), (3, .int x3)]) hx hb dX9_packed_47 hl (k := 4) rfl rfl (by decide) rfl (fun ls hl => ?_)
        refine lv_goto (tgt := 5) hx hb dX9_packed_50 (by decide) ?_
        replace h := itr_back h hy1
        exact ih1 x3 (x4 + 1) _ _ _ h hP hD hS (lv_sub hl [1, 2, 3, 4, 0] rfl)
      delta f_X9_packed_s5 at h
      refine lv_iload hx hb dX9_packed_5 (lv_at hl 4 rfl) ?_
      refine lv_bipush (v := 6) hx hb dX9_packed_7 (by decide) ?_
      refine lv_icmp_ge (tgt := 53) hx hb dX9_packed_9 (by decide) (fun c9 => ?_) (fun c9 => ?_)
      · replace h := (br h).1 c9
        replace h := itr_exit h hy1
        refine lv_iload_n hx hb dX9_packed_53 rfl (lv_at hl 3 rfl) ?_
        exact retI (fr := fun q => q) (fw := fun _ => wj [[(adT, .inl (cy 0, 700, .inl T))]]) h hx hb hr hlocks hK hP hD hS dX9_packed_54
      · replace h := (br h).2 c9
        refine lv_iload_n hx hb dX9_packed_12 rfl (lv_at hl 1 rfl) ?_
        refine lv_iload hx hb dX9_packed_13 (lv_at hl 4 rfl) ?_
        refine lv_iadd hx hb dX9_packed_15 ?_
        refine lv_istore (lv' := [(5, .int (x1 + x4)), (0, .ref adT), (1, .int x1), (2, .int x2), (3, .int x3), (4, .int x4)]) hx hb dX9_packed_16 hl (by decide) rfl (fun ls hl => ?_)
        refine lv_iload_n hx hb dX9_packed_18 rfl (lv_at hl 4 rfl) ?_
        refine lv_iconst (v := 5) hx hb dX9_packed_19 (by decide) ?_
        refine lv_ishl hx hb dX9_packed_20 ?_
        refine lv_istore_n (lv' := [(3, .int (x3 <<< (5 &&& 31))), (5, .int (x1 + x4)), (0, .ref adT), (1, .int x1), (2, .int x2), (4, .int x4)]) hx hb dX9_packed_21 rfl hl (by decide) rfl (fun ls hl => ?_)
        refine lv_iload hx hb dX9_packed_22 (lv_at hl 1 rfl) ?_
        refine lv_iload_n hx hb dX9_packed_24 rfl (lv_at hl 4 rfl) ?_
        refine lv_icmp_ge (tgt := 47) hx hb dX9_packed_25 (by decide) (fun c9 => ?_) (fun c9 => ?_)
        · replace h := (br h).1 c9
          exact B47 (x3 <<< (5 &&& 31)) x4 _ _ _ h hP hD hS (lv_sub hl [2, 3, 4, 0, 5] rfl)
        · replace h := (br h).2 c9
          refine lv_iload hx hb dX9_packed_28 (lv_at hl 1 rfl) ?_
          refine lv_aload_n hx hb dX9_packed_30 rfl (lv_at hl 2 rfl) ?_
          refine alW (v := 700) (tk := 0) (ci := 0) (k0 := 0) hx hb hK hP rfl rfl rfl (by decide) dX9_packed_31 ?_
          refine lv_icmp_ge (tgt := 47) hx hb dX9_packed_32 (by decide) (fun c9 => ?_) (fun c9 => ?_)
          · replace h := (br h).1 c9
            exact B47 (x3 <<< (5 &&& 31)) x4 _ _ _ h hP hD hS (lv_sub hl [2, 3, 4, 0, 5] rfl)
          · replace h := (br h).2 c9
            refine lv_iload_n hx hb dX9_packed_35 rfl (lv_at hl 0 rfl) ?_
            refine lv_aload_n hx hb dX9_packed_36 rfl (lv_at hl 2 rfl) ?_
            refine lv_iload hx hb dX9_packed_37 (lv_at hl 1 rfl) ?_
            replace h := gin_inv h
            obtain ⟨h9, h⟩ := h
            refine ldWB (ci := 0) (k0 := 0) (g := T) (j := (x1 + x4).toNatClampNeg) hx hb hK hP rfl rfl rfl h9 rfl dX9_packed_39 ?_
            refine lv_bipush (v := 97) hx hb dX9_packed_40 (by decide) ?_
            refine lv_isub hx hb dX9_packed_42 ?_
            refine lv_iconst (v := 1) hx hb dX9_packed_43 (by decide) ?_
            refine lv_iadd hx hb dX9_packed_44 ?_
            refine lv_iadd hx hb dX9_packed_45 ?_
            refine lv_istore_n (lv' := [(3, .int ((x3 <<< (5 &&& 31)) + (((T ((x1 + x4).toNatClampNeg)) - 97) + 1))), (5, .int (x1 + x4)), (0, .ref adT), (1, .int x1), (2, .int x2), (4, .int x4)]) hx hb dX9_packed_46 rfl hl (by decide) rfl (fun ls hl => ?_)
            exact B47 ((x3 <<< (5 &&& 31)) + (((T ((x1 + x4).toNatClampNeg)) - 97) + 1)) x4 _ _ _ h hP hD hS (lv_sub hl [2, 3, 4, 0, 5] rfl)
  delta f_X9_packed at h
  refine lv_iconst (v := 0) hx hb dX9_packed_0 (by decide) ?_
  refine lv_istore_n (lv' := [(3, .int 0), (0, .ref adT), (1, .int a2), (2, .int a3)]) hx hb dX9_packed_1 rfl hl (by decide) rfl (fun ls hl => ?_)
  refine lv_iconst (v := 0) hx hb dX9_packed_2 (by decide) ?_
  refine lv_istore (lv' := [(4, .int 0), (3, .int 0), (0, .ref adT), (1, .int a2), (2, .int a3)]) hx hb dX9_packed_3 hl (by decide) rfl (fun ls hl => ?_)
  exact L5 a2 a3 N 0 0 _ _ _ h hP hD hS (lv_sub hl [2, 3, 4, 1, 0] rfl)
theorem hds_X9_isWordAt : yX9_isWordAt.cls ≠ "java/lang/invoke/MethodHandle" ∧ yX9_isWordAt.cls ≠ "java/lang/invoke/VarHandle" ∧ (parseMethodDescriptor yX9_isWordAt.desc).map (fun d => d.parameters.length) = some 4 := ⟨by decide +kernel, by decide +kernel, by decide +kernel⟩
theorem hd_X9_isWordAt : yX9_isWordAt.cls = RX9 ∧ yX9_isWordAt.cls ≠ "java/lang/invoke/MethodHandle" ∧ yX9_isWordAt.cls ≠ "java/lang/invoke/VarHandle" ∧ (parseMethodDescriptor yX9_isWordAt.desc).map (fun d => d.parameters.length) = some 4 := ⟨rfl, hds_X9_isWordAt⟩
def f_X9_isWordAt_s3 (N : Nat) (T : Nat → Int32) (x0 : Int32) (x2 : Int32) (x3 : Int32) (x4 : Int32) : Option (((Int32) ⊕ (Int32))) :=
  if x3 ≤ x4 then inrO (some 1) else if (700 : Int32) ≤ x4 then inrO (some 1) else if (115 : Int32) ≤ (x0 + x4) - x2 then inrO (some 0) else gin ((x0 + x4) - x2) 115 (gin x4 700 (if stc 0 ((x0 + x4) - x2).toNatClampNeg = T x4.toNatClampNeg then some (.inl (x4 + 1)) else inrO (some 0)))
def f_X9_isWordAt (N : Nat) (T : Nat → Int32) (a1 : Int32) (a3 : Int32) (a4 : Int32) : Option (Int32) :=
  itr (fun q : Int32 => f_X9_isWordAt_s3 N T a1 a3 a4 q) N a3
set_option maxHeartbeats 4000000 in
set_option maxRecDepth 100000 in
theorem k_X9_isWordAt (l : Launch) (G : va_G) (cy : Nat → ClassId) (ev : Nat → Nat) (N : Nat) (adT : Nat) (T : Nat → Int32) (a1 : Int32) (a3 : Int32) (a4 : Int32) (res : Int32) (h : f_X9_isWordAt N T a1 a3 a4 = some res) : MetI l yX9_isWordAt cX9_isWordAt 6 (some .boolean) 4 85 G cy ev [.int a1, .ref adT, .int a3, .int a4] (wj [[(adT, .inl (cy 0, 700, .inl T))]]) res (wj [[(adT, .inl (cy 0, 700, .inl T))]]) := by
  refine MetQ.start (by decide +kernel) (Nat.le_of_ble_eq_true rfl) (fun p e s m args below meth c A ls hx hb hr hml hown hts hlocks hK hP hD hA hl hE => ?_)
  have hS : va_S A s.heap s.heap [] := va_S.rf
  have hown : s.vm.findClass RX9 = some m.cls := hown
  have hl : lv_has ls 6 [(0, .int a1), (1, .ref adT), (2, .int a3), (3, .int a4)] := hl
  have L3 : ∀ (x0 : Int32) (x2 : Int32) (x3 : Int32) (n : Nat) (x4 : Int32) (H : Heap) (locs : List Loc) (ls : Array Slot), itr (fun q : Int32 => f_X9_isWordAt_s3 N T x0 x2 x3 q) n x4 = some res → va_P G vwCl (wj [[(adT, .inl (cy 0, 700, .inl T))]]) H → va_D A (wj [[(adT, .inl (cy 0, 700, .inl T))]]) → va_S A s.heap H locs → lv_has ls 6 [(0, .int x0), (1, .ref adT), (2, .int x2), (3, .int x3), (4, .int x4)] → W p l e (rmX 4 85) s m args below meth c H locs 0 0 (MQ below (mQi (res) G cy A (wj [[(adT, .inl (cy 0, 700, .inl T))]])) args s 0 0 A) (F0 m 3 ls []) := by
    intro x0 x2 x3 n
    induction n with
    | zero => intro x4 H locs ls h; exact (itr_zero h).elim
    | succ n ih1 =>
      intro x4 H locs ls h hP hD hS hl
      obtain ⟨y1, h, hy1⟩ := itr_inv h
      have h : f_X9_isWordAt_s3 N T x0 x2 x3 x4 = some y1 := h
      delta f_X9_isWordAt_s3 at h
      refine lv_iload hx hb dX9_isWordAt_3 (lv_at hl 4 rfl) ?_
      refine lv_iload_n hx hb dX9_isWordAt_5 rfl (lv_at hl 3 rfl) ?_
      refine lv_icmp_ge (tgt := 56) hx hb dX9_isWordAt_6 (by decide) (fun c9 => ?_) (fun c9 => ?_)
      · replace h := (br h).1 c9
        replace h := itr_exit h hy1
        refine lv_iconst (v := 1) hx hb dX9_isWordAt_56 (by decide) ?_
        exact retZ (fr := fun q => q) (fw := fun _ => wj [[(adT, .inl (cy 0, 700, .inl T))]]) h hx hb hr narZ1 hlocks hK hP hD hS dX9_isWordAt_57
      · replace h := (br h).2 c9
        refine lv_iload hx hb dX9_isWordAt_9 (lv_at hl 4 rfl) ?_
        refine lv_aload_n hx hb dX9_isWordAt_11 rfl (lv_at hl 1 rfl) ?_
        refine alW (v := 700) (tk := 0) (ci := 0) (k0 := 0) hx hb hK hP rfl rfl rfl (by decide) dX9_isWordAt_12 ?_
        refine lv_icmp_ge (tgt := 56) hx hb dX9_isWordAt_13 (by decide) (fun c9 => ?_) (fun c9 => ?_)
        · replace h := (br h).1 c9
          replace h := itr_exit h hy1
          refine lv_iconst (v := 1) hx hb dX9_isWordAt_56 (by decide) ?_
          exact retZ (fr := fun q => q) (fw := fun _ => wj [[(adT, .inl (cy 0, 700, .inl T))]]) h hx hb hr narZ1 hlocks hK hP hD hS dX9_isWordAt_57
        · replace h := (br h).2 c9
          refine lv_iload_n hx hb dX9_isWordAt_16 rfl (lv_at hl 0 rfl) ?_
          refine lv_iload hx hb dX9_isWordAt_17 (lv_at hl 4 rfl) ?_
          refine lv_iadd hx hb dX9_isWordAt_19 ?_
          refine lv_iload_n hx hb dX9_isWordAt_20 rfl (lv_at hl 2 rfl) ?_
          refine lv_isub hx hb dX9_isWordAt_21 ?_
          refine lv_istore (lv' := [(5, .int ((x0 + x4) - x2)), (0, .int x0), (1, .ref adT), (2, .int x2), (3, .int x3), (4, .int x4)]) hx hb dX9_isWordAt_22 hl (by decide) rfl (fun ls hl => ?_)
          refine lv_iload hx hb dX9_isWordAt_24 (lv_at hl 0 rfl) ?_
          refine va_ldcS hx hb hown (hE.2.2.1.2 0 (by decide)) dX9_isWordAt_26 ?_
          refine callVi0 (r := 115) (As := []) (rest := [.int ((x0 + x4) - x2)]) hx hb hml hown hts (k_J0_length l G cy ev (wj [[(adT, .inl (cy 0, 700, .inl T))]]) 0 (by decide)) wm_13_14 wm_13_15 wm_13_16 wm_13_17 wm_13_18 hd_J0_length_8abf5 ⟨by decide, by decide⟩ hK hP hD hS hA hE (vk_recv (i := 0) (adK := fun i => ev (10 + i)) hE.2.2.1.1 (by decide) hS) rfl rfl hl.1 (Nat.le_of_ble_eq_true rfl) dX9_isWordAt_28 (fun H locs hP hD hS => ?_)
          refine lv_icmp_ge (tgt := 48) hx hb dX9_isWordAt_31 (by decide) (fun c9 => ?_) (fun c9 => ?_)
          · replace h := (br h).1 c9
            replace h := itr_exit h hy1
            refine lv_iconst (v := 0) hx hb dX9_isWordAt_48 (by decide) ?_
            exact retZ (fr := fun q => q) (fw := fun _ => wj [[(adT, .inl (cy 0, 700, .inl T))]]) h hx hb hr narZ0 hlocks hK hP hD hS dX9_isWordAt_49
          · replace h := (br h).2 c9
            refine va_ldcS hx hb hown (hE.2.2.1.2 0 (by decide)) dX9_isWordAt_34 ?_
            refine lv_iload hx hb dX9_isWordAt_36 (lv_at hl 0 rfl) ?_
            replace h := gin_inv h
            obtain ⟨h9, h⟩ := h
            refine callVi0 (As := [.int ((x0 + x4) - x2)]) (rest := []) hx hb hml hown hts (k_J0_charAt l G cy ev (wj [[(adT, .inl (cy 0, 700, .inl T))]]) 0 (by decide) ((x0 + x4) - x2) h9) wm_14_2 wm_14_3 wm_14_4 wm_13_17 wm_14_5 hd_J0_charAt_5068e ⟨by decide, by decide⟩ hK hP hD hS hA hE (vk_recv (i := 0) (adK := fun i => ev (10 + i)) hE.2.2.1.1 (by decide) hS) rfl rfl hl.1 (Nat.le_of_ble_eq_true rfl) dX9_isWordAt_38 (fun H locs hP hD hS => ?_)
            refine lv_aload_n hx hb dX9_isWordAt_41 rfl (lv_at hl 2 rfl) ?_
            refine lv_iload hx hb dX9_isWordAt_42 (lv_at hl 5 rfl) ?_
            replace h := gin_inv h
            obtain ⟨h9, h⟩ := h
            refine ldWB (ci := 0) (k0 := 0) (g := T) (j := x4.toNatClampNeg) hx hb hK hP rfl rfl rfl h9 rfl dX9_isWordAt_44 ?_
            refine lv_icmp_eq (tgt := 50) hx hb dX9_isWordAt_45 (by decide) (fun c9 => ?_) (fun c9 => ?_)
            · replace h := (br h).1 c9
              refine lv_iinc (v := x4 + 1) (lv' := [(4, .int (x4 + 1)), (5, .int ((x0 + x4) - x2)), (0, .int x0), (1, .ref adT), (2, .int x2), (3, .int x3)]) hx hb dX9_isWordAt_50 hl (k := 5) rfl rfl (by decide) rfl (fun ls hl => ?_)
              refine lv_goto (tgt := 3) hx hb dX9_isWordAt_53 (by decide) ?_
              replace h := itr_back h hy1
              exact ih1 (x4 + 1) _ _ _ h hP hD hS (lv_sub hl [2, 3, 4, 5, 0] rfl)
            · replace h := (br h).2 c9
              replace h := itr_exit h hy1
              refine lv_iconst (v := 0) hx hb dX9_isWordAt_48 (by decide) ?_
              exact retZ (fr := fun q => q) (fw := fun _ => wj [[(adT, .inl (cy 0, 700, .inl T))]]) h hx hb hr narZ0 hlocks hK hP hD hS dX9_isWordAt_49
  delta f_X9_isWordAt at h
  refine lv_iload_n hx hb dX9_isWordAt_0 rfl (lv_at hl 2 rfl) ?_
  refine lv_istore (lv' := [(4, .int a3), (0, .int a1), (1, .ref adT), (2, .int a3), (3, .int a4)]) hx hb dX9_isWordAt_1 hl (by decide) rfl (fun ls hl => ?_)
  exact L3 a1 a3 a4 N a3 _ _ _ h hP hD hS (lv_sub hl [1, 2, 3, 4, 0] rfl)
theorem hds_X9_wordOf : yX9_wordOf.cls ≠ "java/lang/invoke/MethodHandle" ∧ yX9_wordOf.cls ≠ "java/lang/invoke/VarHandle" ∧ (parseMethodDescriptor yX9_wordOf.desc).map (fun d => d.parameters.length) = some 3 := ⟨by decide +kernel, by decide +kernel, by decide +kernel⟩
theorem hd_X9_wordOf : yX9_wordOf.cls = RX9 ∧ yX9_wordOf.cls ≠ "java/lang/invoke/MethodHandle" ∧ yX9_wordOf.cls ≠ "java/lang/invoke/VarHandle" ∧ (parseMethodDescriptor yX9_wordOf.desc).map (fun d => d.parameters.length) = some 3 := ⟨rfl, hds_X9_wordOf⟩
def f_X9_wordOf_b63 (N : Nat) (T : Nat → Int32) (x1 : Int32) (x2 : Int32) (x3 : Int32) (x4 : Int32) (x5 : Int32) : Option (((Int32 × Int32 × Int32) ⊕ (Int32))) :=
  some (.inl (x3, x4, x5 + 1))
def f_X9_wordOf_b54 (N : Nat) (T : Nat → Int32) (x1 : Int32) (x2 : Int32) (x3 : Int32) (x5 : Int32) : Option (((Int32 × Int32 × Int32) ⊕ (Int32))) :=
  f_X9_wordOf_b63 N T x1 x2 (x3 + 1) (x5 + 1) x5
def f_X9_wordOf_s8 (N : Nat) (T : Nat → Int32) (x1 : Int32) (x2 : Int32) (x3 : Int32) (x4 : Int32) (x5 : Int32) : Option (((Int32 × Int32 × Int32) ⊕ (Int32))) :=
  if (115 : Int32) ≤ x5 then inrO (some ((-1))) else gin x5 115 (if stc 0 x5.toNatClampNeg = 32 then if x5 - x4 = x2 - x1 then bnd (f_X9_isWordAt N T x4 x1 x2) (fun q801 => if q801 = 0 then f_X9_wordOf_b54 N T x1 x2 x3 x5 else inrO (some x3)) else f_X9_wordOf_b54 N T x1 x2 x3 x5 else f_X9_wordOf_b63 N T x1 x2 x3 x4 x5)
def f_X9_wordOf (N : Nat) (T : Nat → Int32) (a2 : Int32) (a3 : Int32) : Option (Int32) :=
  itr (fun q : Int32 × Int32 × Int32 => f_X9_wordOf_s8 N T a2 a3 q.1 q.2.1 q.2.2) N (0, 0, 0)
set_option maxHeartbeats 4000000 in
set_option maxRecDepth 100000 in
theorem k_X9_wordOf (l : Launch) (G : va_G) (cy : Nat → ClassId) (ev : Nat → Nat) (N : Nat) (adT : Nat) (T : Nat → Int32) (a2 : Int32) (a3 : Int32) (res : Int32) (h : f_X9_wordOf N T a2 a3 = some res) : MetI l yX9_wordOf cX9_wordOf 6 (some .int) 5 110 G cy ev [.ref adT, .int a2, .int a3] (wj [[(adT, .inl (cy 0, 700, .inl T))]]) res (wj [[(adT, .inl (cy 0, 700, .inl T))]]) := by
  refine MetQ.start (by decide +kernel) (Nat.le_of_ble_eq_true rfl) (fun p e s m args below meth c A ls hx hb hr hml hown hts hlocks hK hP hD hA hl hE => ?_)
  have hS : va_S A s.heap s.heap [] := va_S.rf
  have hown : s.vm.findClass RX9 = some m.cls := hown
  have hl : lv_has ls 6 [(0, .ref adT), (1, .int a2), (2, .int a3)] := hl
  have L8 : ∀ (x1 : Int32) (x2 : Int32) (n : Nat) (x3 : Int32) (x4 : Int32) (x5 : Int32) (H : Heap) (locs : List Loc) (ls : Array Slot), itr (fun q : Int32 × Int32 × Int32 => f_X9_wordOf_s8 N T x1 x2 q.1 q.2.1 q.2.2) n (x3, x4, x5) = some res → va_P G vwCl (wj [[(adT, .inl (cy 0, 700, .inl T))]]) H → va_D A (wj [[(adT, .inl (cy 0, 700, .inl T))]]) → va_S A s.heap H locs → lv_has ls 6 [(0, .ref adT), (1, .int x1), (2, .int x2), (3, .int x3), (4, .int x4), (5, .int x5)] → W p l e (rmX 5 110) s m args below meth c H locs 0 0 (MQ below (mQi (res) G cy A (wj [[(adT, .inl (cy 0, 700, .inl T))]])) args s 0 0 A) (F0 m 8 ls []) := by
    intro x1 x2 n
    induction n with
    | zero => intro x3 x4 x5 H locs ls h; exact (itr_zero h).elim
    | succ n ih1 =>
      intro x3 x4 x5 H locs ls h hP hD hS hl
      obtain ⟨y1, h, hy1⟩ := itr_inv h
      have h : f_X9_wordOf_s8 N T x1 x2 x3 x4 x5 = some y1 := h
      have B63 : ∀ (x3 : Int32) (x4 : Int32) (x5 : Int32) (H : Heap) (locs : List Loc) (ls : Array Slot), f_X9_wordOf_b63 N T x1 x2 x3 x4 x5 = some y1 → va_P G vwCl (wj [[(adT, .inl (cy 0, 700, .inl T))]]) H → va_D A (wj [[(adT, .inl (cy 0, 700, .inl T))]]) → va_S A s.heap H locs → lv_has ls 6 [(0, .ref adT), (1, .int x1), (2, .int x2), (3, .int x3), (4, .int x4), (5, .int x5)] → W p l e (rmX 5 110) s m args below meth c H locs 0 0 (MQ below (mQi (res) G cy A (wj [[(adT, .inl (cy 0, 700, .inl T))]])) args s 0 0 A) (F0 m 63 ls []) := by
        intro x3 x4 x5 H locs ls h hP hD hS hl
        delta f_X9_wordOf_b63 at h
        refine lv_iinc (v := x5 + 1) (lv' := [(5, .int (x5 + 1)), (0, .ref adT), (1, .int x1), (2, .int x2), (3, .int x3), (4, .int x4)]) hx hb dX9_wordOf_63 hl (k := 5) rfl rfl (by decide) rfl (fun ls hl => ?_)
        refine lv_goto (tgt := 8) hx hb dX9_wordOf_66 (by decide) ?_
        replace h := itr_back h hy1
        exact ih1 x3 x4 (x5 + 1) _ _ _ h hP hD hS (lv_sub hl [1, 2, 3, 4, 5, 0] rfl)
      have B54 : ∀ (x3 : Int32) (x5 : Int32) (H : Heap) (locs : List Loc) (ls : Array Slot), f_X9_wordOf_b54 N T x1 x2 x3 x5 = some y1 → va_P G vwCl (wj [[(adT, .inl (cy 0, 700, .inl T))]]) H → va_D A (wj [[(adT, .inl (cy 0, 700, .inl T))]]) → va_S A s.heap H locs → lv_has ls 6 [(0, .ref adT), (1, .int x1), (2, .int x2), (3, .int x3), (5, .int x5)] → W p l e (rmX 5 110) s m args below meth c H locs 0 0 (MQ below (mQi (res) G cy A (wj [[(adT, .inl (cy 0, 700, .inl T))]])) args s 0 0 A) (F0 m 54 ls []) := by
        intro x3 x5 H locs ls h hP hD hS hl
        delta f_X9_wordOf_b54 at h
        refine lv_iinc (v := x3 + 1) (lv' := [(3, .int (x3 + 1)), (0, .ref adT), (1, .int x1), (2, .int x2), (5, .int x5)]) hx hb dX9_wordOf_54 hl (k := 3) rfl rfl (by decide) rfl (fun ls hl => ?_)
        refine lv_iload hx hb dX9_wordOf_57 (lv_at hl 4 rfl) ?_
        refine lv_iconst (v := 1) hx hb dX9_wordOf_59 (by decide) ?_
        refine lv_iadd hx hb dX9_wordOf_60 ?_
        refine lv_istore (lv' := [(4, .int (x5 + 1)), (3, .int (x3 + 1)), (0, .ref adT), (1, .int x1), (2, .int x2), (5, .int x5)]) hx hb dX9_wordOf_61 hl (by decide) rfl (fun ls hl => ?_)
        exact B63 (x3 + 1) (x5 + 1) x5 _ _ _ h hP hD hS (lv_sub hl [2, 3, 4, 1, 0, 5] rfl)
      delta f_X9_wordOf_s8 at h
      refine lv_iload hx hb dX9_wordOf_8 (lv_at hl 5 rfl) ?_
      refine va_ldcS hx hb hown (hE.2.2.1.2 0 (by decide)) dX9_wordOf_10 ?_
      refine callVi0 (r := 115) (As := []) (rest := [.int x5]) hx hb hml hown hts (k_J0_length l G cy ev (wj [[(adT, .inl (cy 0, 700, .inl T))]]) 0 (by decide)) wm_13_14 wm_13_15 wm_13_16 wm_13_17 wm_13_18 hd_J0_length_8abf5 ⟨by decide, by decide⟩ hK hP hD hS hA hE (vk_recv (i := 0) (adK := fun i => ev (10 + i)) hE.2.2.1.1 (by decide) hS) rfl rfl hl.1 (Nat.le_of_ble_eq_true rfl) dX9_wordOf_12 (fun H locs hP hD hS => ?_)
      refine lv_icmp_ge (tgt := 69) hx hb dX9_wordOf_15 (by decide) (fun c9 => ?_) (fun c9 => ?_)
      · replace h := (br h).1 c9
        replace h := itr_exit h hy1
        refine lv_iconst (v := (-1)) hx hb dX9_wordOf_69 (by decide) ?_
        exact retI (fr := fun q => q) (fw := fun _ => wj [[(adT, .inl (cy 0, 700, .inl T))]]) h hx hb hr hlocks hK hP hD hS dX9_wordOf_70
      · replace h := (br h).2 c9
        refine va_ldcS hx hb hown (hE.2.2.1.2 0 (by decide)) dX9_wordOf_18 ?_
        refine lv_iload hx hb dX9_wordOf_20 (lv_at hl 5 rfl) ?_
        replace h := gin_inv h
        obtain ⟨h9, h⟩ := h
        refine callVi0 (As := [.int x5]) (rest := []) hx hb hml hown hts (k_J0_charAt l G cy ev (wj [[(adT, .inl (cy 0, 700, .inl T))]]) 0 (by decide) x5 h9) wm_14_2 wm_14_3 wm_14_4 wm_13_17 wm_14_5 hd_J0_charAt_5068e ⟨by decide, by decide⟩ hK hP hD hS hA hE (vk_recv (i := 0) (adK := fun i => ev (10 + i)) hE.2.2.1.1 (by decide) hS) rfl rfl hl.1 (Nat.le_of_ble_eq_true rfl) dX9_wordOf_22 (fun H locs hP hD hS => ?_)
        refine lv_bipush (v := 32) hx hb dX9_wordOf_25 (by decide) ?_
        refine lv_icmp_ne (tgt := 63) hx hb dX9_wordOf_27 (by decide) (fun c9 => ?_) (fun c9 => ?_)
        · replace h := (br h).2 c9
          exact B63 x3 x4 x5 _ _ _ h hP hD hS (lv_sub hl [0, 1, 2, 3, 4, 5] rfl)
        · replace h := (br h).1 c9
          refine lv_iload hx hb dX9_wordOf_30 (lv_at hl 5 rfl) ?_
          refine lv_iload hx hb dX9_wordOf_32 (lv_at hl 4 rfl) ?_
          refine lv_isub hx hb dX9_wordOf_34 ?_
          refine lv_iload_n hx hb dX9_wordOf_35 rfl (lv_at hl 2 rfl) ?_
          refine lv_iload_n hx hb dX9_wordOf_36 rfl (lv_at hl 1 rfl) ?_
          refine lv_isub hx hb dX9_wordOf_37 ?_
          refine lv_icmp_ne (tgt := 54) hx hb dX9_wordOf_38 (by decide) (fun c9 => ?_) (fun c9 => ?_)
          · replace h := (br h).2 c9
            exact B54 x3 x5 _ _ _ h hP hD hS (lv_sub hl [0, 1, 2, 3, 5] rfl)
          · replace h := (br h).1 c9
            refine lv_iload hx hb dX9_wordOf_41 (lv_at hl 4 rfl) ?_
            refine lv_aload_n hx hb dX9_wordOf_43 rfl (lv_at hl 0 rfl) ?_
            refine lv_iload_n hx hb dX9_wordOf_44 rfl (lv_at hl 1 rfl) ?_
            refine lv_iload_n hx hb dX9_wordOf_45 rfl (lv_at hl 2 rfl) ?_
            replace h := bd h
            obtain ⟨q801, h802, h⟩ := h
            refine callWSi (As := [.int x4, .ref adT, .int x1, .int x2]) (rest := []) (cs' := [[(adT, .inl (cy 0, 700, .inl T))]]) (isC := [0]) (isR := []) hx hb hml hown hts (k_X9_isWordAt l G cy ev N adT T x4 x1 x2 q801 h802) wm_15_15 wm_15_16 wm_3_15 wm_15_17 hd_X9_isWordAt ⟨by decide, by decide⟩ hK hP hD hS hA hE rfl rfl rfl (cov_of (n := 1) rfl (by decide)) (by decide) rfl rfl rfl hl.1 (Nat.le_of_ble_eq_true rfl) dX9_wordOf_46 (fun H locs hP hD hS => ?_)
            refine lv_if_eq (tgt := 54) hx hb dX9_wordOf_49 (by decide) (fun c9 => ?_) (fun c9 => ?_)
            · replace h := (br h).1 c9
              exact B54 x3 x5 _ _ _ h hP hD hS (lv_sub hl [0, 1, 2, 3, 5] rfl)
            · replace h := (br h).2 c9
              replace h := itr_exit h hy1
              refine lv_iload_n hx hb dX9_wordOf_52 rfl (lv_at hl 3 rfl) ?_
              exact retI (fr := fun q => q) (fw := fun _ => wj [[(adT, .inl (cy 0, 700, .inl T))]]) h hx hb hr hlocks hK hP hD hS dX9_wordOf_53
  delta f_X9_wordOf at h
  refine lv_iconst (v := 0) hx hb dX9_wordOf_0 (by decide) ?_
  refine lv_istore_n (lv' := [(3, .int 0), (0, .ref adT), (1, .int a2), (2, .int a3)]) hx hb dX9_wordOf_1 rfl hl (by decide) rfl (fun ls hl => ?_)
  refine lv_iconst (v := 0) hx hb dX9_wordOf_2 (by decide) ?_
  refine lv_istore (lv' := [(4, .int 0), (3, .int 0), (0, .ref adT), (1, .int a2), (2, .int a3)]) hx hb dX9_wordOf_3 hl (by decide) rfl (fun ls hl => ?_)
  refine lv_iconst (v := 0) hx hb dX9_wordOf_5 (by decide) ?_
  refine lv_istore (lv' := [(5, .int 0), (4, .int 0), (3, .int 0), (0, .ref adT), (1, .int a2), (2, .int a3)]) hx hb dX9_wordOf_6 hl (by decide) rfl (fun ls hl => ?_)
  exact L8 a2 a3 N 0 0 0 _ _ _ h hP hD hS (lv_sub hl [3, 4, 5, 2, 1, 0] rfl)
theorem hds_X9_takeWord : yX9_takeWord.cls ≠ "java/lang/invoke/MethodHandle" ∧ yX9_takeWord.cls ≠ "java/lang/invoke/VarHandle" ∧ (parseMethodDescriptor yX9_takeWord.desc).map (fun d => d.parameters.length) = some 3 := ⟨by decide +kernel, by decide +kernel, by decide +kernel⟩
theorem hd_X9_takeWord : yX9_takeWord.cls = RX9 ∧ yX9_takeWord.cls ≠ "java/lang/invoke/MethodHandle" ∧ yX9_takeWord.cls ≠ "java/lang/invoke/VarHandle" ∧ (parseMethodDescriptor yX9_takeWord.desc).map (fun d => d.parameters.length) = some 3 := ⟨rfl, hds_X9_takeWord⟩
def f_X9_takeWord_b25 (N : Nat) (K : VV) (T : Nat → Int32) (x3 : Int32) (x4 : Int32) : Option (Int32 × VV) :=
  bnd (f_X9_wordOf N T x3 x4) (fun q2501 => if q2501 = (-1) then if (6 : Int32) < x4 - x3 then bnd (f_X9_put K 1 x3 0) (fun q2503 => some (x4, q2503)) else bnd (f_X9_packed N T x3 x4) (fun q2505 => bnd (f_X9_put K 3 x3 q2505) (fun q2507 => some (x4, q2507))) else bnd (f_X9_put K (32 + q2501) x3 0) (fun q2509 => some (x4, q2509)))
def f_X9_takeWord_s3 (N : Nat) (K : VV) (T : Nat → Int32) (x2 : Int32) (x3 : Int32) (x4 : Int32) : Option (((Int32 × VV) ⊕ (Int32 × VV))) :=
  if x2 ≤ x4 then inrO (f_X9_takeWord_b25 N K T x3 x4) else gin x4 700 (bnd (f_X9_isLetter (T x4.toNatClampNeg)) (fun q301 => if q301 = 0 then inrO (f_X9_takeWord_b25 N K T x3 x4) else some (.inl (x4 + 1, K))))
def f_X9_takeWord (N : Nat) (K : VV) (T : Nat → Int32) (a2 : Int32) (a3 : Int32) : Option (Int32 × VV) :=
  itr (fun q : Int32 × VV => f_X9_takeWord_s3 N q.2 T a2 a3 q.1) N (a3, K)
set_option maxHeartbeats 4000000 in
set_option maxRecDepth 100000 in
theorem k_X9_takeWord (l : Launch) (G : va_G) (cy : Nat → ClassId) (ev : Nat → Nat) (N : Nat) (adK : Nat → Nat) (K : VV) (adT : Nat) (T : Nat → Int32) (a2 : Int32) (a3 : Int32) (res : Int32 × VV) (h : f_X9_takeWord N K T a2 a3 = some res) : MetI l yX9_takeWord cX9_takeWord 6 (some .int) 6 135 G cy ev [.ref (adK 0), .ref adT, .int a2, .int a3] (wj [cX9 cy adK K, [(adT, .inl (cy 0, 700, .inl T))]]) res.1 (wj [cX9 cy adK res.2, [(adT, .inl (cy 0, 700, .inl T))]]) := by
  refine MetQ.start (by decide +kernel) (Nat.le_of_ble_eq_true rfl) (fun p e s m args below meth c A ls hx hb hr hml hown hts hlocks hK hP hD hA hl hE => ?_)
  have hS : va_S A s.heap s.heap [] := va_S.rf
  have hown : s.vm.findClass RX9 = some m.cls := hown
  have hl : lv_has ls 6 [(0, .ref (adK 0)), (1, .ref adT), (2, .int a2), (3, .int a3)] := hl
  have B25 : ∀ (x3 : Int32) (x4 : Int32) (K : VV) (H : Heap) (locs : List Loc) (ls : Array Slot), f_X9_takeWord_b25 N K T x3 x4 = some res → va_P G vwCl (wj [cX9 cy adK K, [(adT, .inl (cy 0, 700, .inl T))]]) H → va_D A (wj [cX9 cy adK K, [(adT, .inl (cy 0, 700, .inl T))]]) → va_S A s.heap H locs → lv_has ls 6 [(0, .ref (adK 0)), (1, .ref adT), (3, .int x3), (4, .int x4)] → W p l e (rmX 6 135) s m args below meth c H locs 0 0 (MQ below (mQi (res.1) G cy A (wj [cX9 cy adK res.2, [(adT, .inl (cy 0, 700, .inl T))]])) args s 0 0 A) (F0 m 25 ls []) := by
    intro x3 x4 K H locs ls h hP hD hS hl
    delta f_X9_takeWord_b25 at h
    refine lv_aload_n hx hb dX9_takeWord_25 rfl (lv_at hl 1 rfl) ?_
    refine lv_iload_n hx hb dX9_takeWord_26 rfl (lv_at hl 2 rfl) ?_
    refine lv_iload hx hb dX9_takeWord_27 (lv_at hl 3 rfl) ?_
    replace h := bd h
    obtain ⟨q2501, h2502, h⟩ := h
    refine callWSi (As := [.ref adT, .int x3, .int x4]) (rest := []) (cs' := [cX9 cy adK K, [(adT, .inl (cy 0, 700, .inl T))]]) (isC := [1]) (isR := [0]) hx hb hml hown hts (k_X9_wordOf l G cy ev N adT T x3 x4 q2501 h2502) wm_13_11 wm_13_12 wm_3_15 wm_13_13 hd_X9_wordOf ⟨by decide, by decide⟩ hK hP hD hS hA hE rfl rfl rfl (cov_of (n := 2) rfl (by decide)) (by decide) rfl rfl rfl hl.1 (Nat.le_of_ble_eq_true rfl) dX9_takeWord_29 (fun H locs hP hD hS => ?_)
    refine lv_istore (lv' := [(5, .int q2501), (0, .ref (adK 0)), (1, .ref adT), (3, .int x3), (4, .int x4)]) hx hb dX9_takeWord_32 hl (by decide) rfl (fun ls hl => ?_)
    refine lv_iload hx hb dX9_takeWord_34 (lv_at hl 0 rfl) ?_
    refine lv_iconst (v := (-1)) hx hb dX9_takeWord_36 (by decide) ?_
    refine lv_icmp_eq (tgt := 54) hx hb dX9_takeWord_37 (by decide) (fun c9 => ?_) (fun c9 => ?_)
    · replace h := (br h).1 c9
      refine lv_iload hx hb dX9_takeWord_54 (lv_at hl 4 rfl) ?_
      refine lv_iload_n hx hb dX9_takeWord_56 rfl (lv_at hl 3 rfl) ?_
      refine lv_isub hx hb dX9_takeWord_57 ?_
      refine lv_bipush (v := 6) hx hb dX9_takeWord_58 (by decide) ?_
      refine lv_icmp_gt (tgt := 79) hx hb dX9_takeWord_60 (by decide) (fun c9 => ?_) (fun c9 => ?_)
      · replace h := (br h).1 c9
        refine lv_aload_n hx hb dX9_takeWord_79 rfl (lv_at hl 1 rfl) ?_
        refine lv_iconst (v := 1) hx hb dX9_takeWord_80 (by decide) ?_
        refine lv_iload_n hx hb dX9_takeWord_81 rfl (lv_at hl 3 rfl) ?_
        refine lv_iconst (v := 0) hx hb dX9_takeWord_82 (by decide) ?_
        replace h := bd h
        obtain ⟨q2503, h2504, h⟩ := h
        refine callWVv (As := [.int 1, .int x3, .int 0]) (rest := []) (cs' := [cX9 cy adK q2503, [(adT, .inl (cy 0, 700, .inl T))]]) (isC := [0]) (isR := [1]) hx hb hml hown hts (k_X9_put l G cy ev adK K 1 x3 0 q2503 h2504) wm_13_0 wm_13_1 wm_13_2 wm_3_15 wm_13_3 hd_X9_put ⟨by decide, by decide⟩ hK hP hD hS hA hE rfl rfl rfl (cov_of (n := 2) rfl (by decide)) (by decide) rfl (recvW (ci := 0) hK hP rfl cX9_o rfl) rfl rfl hl.1 (Nat.le_of_ble_eq_true rfl) dX9_takeWord_83 (fun H locs hP hD hS => ?_)
        refine lv_iload hx hb dX9_takeWord_86 (lv_at hl 4 rfl) ?_
        exact retI (fr := fun q => q.1) (fw := fun q => wj [cX9 cy adK q.2, [(adT, .inl (cy 0, 700, .inl T))]]) h hx hb hr hlocks hK hP hD hS dX9_takeWord_88
      · replace h := (br h).2 c9
        refine lv_aload_n hx hb dX9_takeWord_63 rfl (lv_at hl 1 rfl) ?_
        refine lv_iconst (v := 3) hx hb dX9_takeWord_64 (by decide) ?_
        refine lv_iload_n hx hb dX9_takeWord_65 rfl (lv_at hl 3 rfl) ?_
        refine lv_aload_n hx hb dX9_takeWord_66 rfl (lv_at hl 2 rfl) ?_
        refine lv_iload_n hx hb dX9_takeWord_67 rfl (lv_at hl 3 rfl) ?_
        refine lv_iload hx hb dX9_takeWord_68 (lv_at hl 4 rfl) ?_
        replace h := bd h
        obtain ⟨q2505, h2506, h⟩ := h
        refine callWSi (As := [.ref adT, .int x3, .int x4]) (rest := [.int x3, .int 3, .ref (adK 0)]) (cs' := [cX9 cy adK K, [(adT, .inl (cy 0, 700, .inl T))]]) (isC := [1]) (isR := [0]) hx hb hml hown hts (k_X9_packed l G cy ev N adT T x3 x4 q2505 h2506) wm_15_18 wm_15_19 wm_3_15 wm_15_20 hd_X9_packed ⟨by decide, by decide⟩ hK hP hD hS hA hE rfl rfl rfl (cov_of (n := 2) rfl (by decide)) (by decide) rfl rfl rfl hl.1 (Nat.le_of_ble_eq_true rfl) dX9_takeWord_70 (fun H locs hP hD hS => ?_)
        replace h := bd h
        obtain ⟨q2507, h2508, h⟩ := h
        refine callWVv (As := [.int 3, .int x3, .int q2505]) (rest := []) (cs' := [cX9 cy adK q2507, [(adT, .inl (cy 0, 700, .inl T))]]) (isC := [0]) (isR := [1]) hx hb hml hown hts (k_X9_put l G cy ev adK K 3 x3 q2505 q2507 h2508) wm_13_0 wm_13_1 wm_13_2 wm_3_15 wm_13_3 hd_X9_put ⟨by decide, by decide⟩ hK hP hD hS hA hE rfl rfl rfl (cov_of (n := 2) rfl (by decide)) (by decide) rfl (recvW (ci := 0) hK hP rfl cX9_o rfl) rfl rfl hl.1 (Nat.le_of_ble_eq_true rfl) dX9_takeWord_73 (fun H locs hP hD hS => ?_)
        refine lv_goto (tgt := 86) hx hb dX9_takeWord_76 (by decide) ?_
        refine lv_iload hx hb dX9_takeWord_86 (lv_at hl 4 rfl) ?_
        exact retI (fr := fun q => q.1) (fw := fun q => wj [cX9 cy adK q.2, [(adT, .inl (cy 0, 700, .inl T))]]) h hx hb hr hlocks hK hP hD hS dX9_takeWord_88
    · replace h := (br h).2 c9
      refine lv_aload_n hx hb dX9_takeWord_40 rfl (lv_at hl 1 rfl) ?_
      refine lv_bipush (v := 32) hx hb dX9_takeWord_41 (by decide) ?_
      refine lv_iload hx hb dX9_takeWord_43 (lv_at hl 0 rfl) ?_
      refine lv_iadd hx hb dX9_takeWord_45 ?_
      refine lv_iload_n hx hb dX9_takeWord_46 rfl (lv_at hl 3 rfl) ?_
      refine lv_iconst (v := 0) hx hb dX9_takeWord_47 (by decide) ?_
      replace h := bd h
      obtain ⟨q2509, h2510, h⟩ := h
      refine callWVv (As := [.int (32 + q2501), .int x3, .int 0]) (rest := []) (cs' := [cX9 cy adK q2509, [(adT, .inl (cy 0, 700, .inl T))]]) (isC := [0]) (isR := [1]) hx hb hml hown hts (k_X9_put l G cy ev adK K (32 + q2501) x3 0 q2509 h2510) wm_13_0 wm_13_1 wm_13_2 wm_3_15 wm_13_3 hd_X9_put ⟨by decide, by decide⟩ hK hP hD hS hA hE rfl rfl rfl (cov_of (n := 2) rfl (by decide)) (by decide) rfl (recvW (ci := 0) hK hP rfl cX9_o rfl) rfl rfl hl.1 (Nat.le_of_ble_eq_true rfl) dX9_takeWord_48 (fun H locs hP hD hS => ?_)
      refine lv_goto (tgt := 86) hx hb dX9_takeWord_51 (by decide) ?_
      refine lv_iload hx hb dX9_takeWord_86 (lv_at hl 4 rfl) ?_
      exact retI (fr := fun q => q.1) (fw := fun q => wj [cX9 cy adK q.2, [(adT, .inl (cy 0, 700, .inl T))]]) h hx hb hr hlocks hK hP hD hS dX9_takeWord_88
  have L3 : ∀ (x2 : Int32) (x3 : Int32) (n : Nat) (x4 : Int32) (K : VV) (H : Heap) (locs : List Loc) (ls : Array Slot), itr (fun q : Int32 × VV => f_X9_takeWord_s3 N q.2 T x2 x3 q.1) n (x4, K) = some res → va_P G vwCl (wj [cX9 cy adK K, [(adT, .inl (cy 0, 700, .inl T))]]) H → va_D A (wj [cX9 cy adK K, [(adT, .inl (cy 0, 700, .inl T))]]) → va_S A s.heap H locs → lv_has ls 6 [(0, .ref (adK 0)), (1, .ref adT), (2, .int x2), (3, .int x3), (4, .int x4)] → W p l e (rmX 6 135) s m args below meth c H locs 0 0 (MQ below (mQi (res.1) G cy A (wj [cX9 cy adK res.2, [(adT, .inl (cy 0, 700, .inl T))]])) args s 0 0 A) (F0 m 3 ls []) := by
    intro x2 x3 n
    induction n with
    | zero => intro x4 K H locs ls h; exact (itr_zero h).elim
    | succ n ih1 =>
      intro x4 K H locs ls h hP hD hS hl
      obtain ⟨y1, h, hy1⟩ := itr_inv h
      have h : f_X9_takeWord_s3 N K T x2 x3 x4 = some y1 := h
      delta f_X9_takeWord_s3 at h
      refine lv_iload hx hb dX9_takeWord_3 (lv_at hl 4 rfl) ?_
      refine lv_iload_n hx hb dX9_takeWord_5 rfl (lv_at hl 2 rfl) ?_
      refine lv_icmp_ge (tgt := 25) hx hb dX9_takeWord_6 (by decide) (fun c9 => ?_) (fun c9 => ?_)
      · replace h := (br h).1 c9
        replace h := itr_exit h hy1
        exact B25 x3 x4 K _ _ _ h hP hD hS (lv_sub hl [0, 1, 3, 4] rfl)
      · replace h := (br h).2 c9
        refine lv_aload_n hx hb dX9_takeWord_9 rfl (lv_at hl 1 rfl) ?_
        refine lv_iload hx hb dX9_takeWord_10 (lv_at hl 4 rfl) ?_
        replace h := gin_inv h
        obtain ⟨h9, h⟩ := h
        refine ldWB (ci := 1) (k0 := 0) (g := T) (j := x4.toNatClampNeg) hx hb hK hP rfl rfl rfl h9 rfl dX9_takeWord_12 ?_
        replace h := bd h
        obtain ⟨q301, h302, h⟩ := h
        refine callSi0 (As := [.int (T x4.toNatClampNeg)]) (rest := []) hx hb hml hown hts (k_X9_isLetter l G cy ev (wj [cX9 cy adK K, [(adT, .inl (cy 0, 700, .inl T))]]) (T x4.toNatClampNeg) q301 h302) wm_13_4 wm_13_5 wm_3_15 wm_13_6 hd_X9_isLetter ⟨by decide, by decide⟩ hK hP hD hS hA hE rfl rfl hl.1 (Nat.le_of_ble_eq_true rfl) dX9_takeWord_13 (fun H locs hP hD hS => ?_)
        refine lv_if_eq (tgt := 25) hx hb dX9_takeWord_16 (by decide) (fun c9 => ?_) (fun c9 => ?_)
        · replace h := (br h).1 c9
          replace h := itr_exit h hy1
          exact B25 x3 x4 K _ _ _ h hP hD hS (lv_sub hl [0, 1, 3, 4] rfl)
        · replace h := (br h).2 c9
          refine lv_iinc (v := x4 + 1) (lv' := [(4, .int (x4 + 1)), (0, .ref (adK 0)), (1, .ref adT), (2, .int x2), (3, .int x3)]) hx hb dX9_takeWord_19 hl (k := 4) rfl rfl (by decide) rfl (fun ls hl => ?_)
          refine lv_goto (tgt := 3) hx hb dX9_takeWord_22 (by decide) ?_
          replace h := itr_back h hy1
          exact ih1 (x4 + 1) K _ _ _ h hP hD hS (lv_sub hl [1, 2, 3, 4, 0] rfl)
  delta f_X9_takeWord at h
  refine lv_iload_n hx hb dX9_takeWord_0 rfl (lv_at hl 3 rfl) ?_
  refine lv_istore (lv' := [(4, .int a3), (0, .ref (adK 0)), (1, .ref adT), (2, .int a2), (3, .int a3)]) hx hb dX9_takeWord_1 hl (by decide) rfl (fun ls hl => ?_)
  exact L3 a2 a3 N a3 K _ _ _ h hP hD hS (lv_sub hl [1, 2, 3, 4, 0] rfl)
theorem hds_X9_singleSign : yX9_singleSign.cls ≠ "java/lang/invoke/MethodHandle" ∧ yX9_singleSign.cls ≠ "java/lang/invoke/VarHandle" ∧ (parseMethodDescriptor yX9_singleSign.desc).map (fun d => d.parameters.length) = some 1 := ⟨by decide +kernel, by decide +kernel, by decide +kernel⟩
theorem hd_X9_singleSign : yX9_singleSign.cls = RX9 ∧ yX9_singleSign.cls ≠ "java/lang/invoke/MethodHandle" ∧ yX9_singleSign.cls ≠ "java/lang/invoke/VarHandle" ∧ (parseMethodDescriptor yX9_singleSign.desc).map (fun d => d.parameters.length) = some 1 := ⟨rfl, hds_X9_singleSign⟩
def f_X9_singleSign (a1 : Int32) : Option (Int32) :=
  if a1 = 40 then some 5 else if a1 = 41 then some 6 else if a1 = 42 then some 9 else if a1 = 43 then some 7 else if a1 = 45 then some 8 else if a1 = 47 then some 10 else if a1 = 59 then some 4 else if a1 = 61 then some 13 else some 1
set_option maxHeartbeats 4000000 in
set_option maxRecDepth 100000 in
theorem k_X9_singleSign (l : Launch) (G : va_G) (cy : Nat → ClassId) (ev : Nat → Nat) (w : va_W)  (a1 : Int32) (res : Int32) (h : f_X9_singleSign a1 = some res) : MetI l yX9_singleSign cX9_singleSign 1 (some .int) 0 0 G cy ev [.int a1] (w) res (w) := by
  refine MetQ.start (by decide +kernel) (Nat.le_of_ble_eq_true rfl) (fun p e s m args below meth c A ls hx hb hr hml hown hts hlocks hK hP hD hA hl hE => ?_)
  have hS : va_S A s.heap s.heap [] := va_S.rf
  have hown : s.vm.findClass RX9 = some m.cls := hown
  have hl : lv_has ls 1 [(0, .int a1)] := hl
  delta f_X9_singleSign at h
  refine lv_iload_n hx hb dX9_singleSign_0 rfl (lv_at hl 0 rfl) ?_
  refine lv_topi (fun w1 ew1 => ?_)
  by_cases nw1_0 : a1 = 40
  · replace h := (br h).1 nw1_0
    rw [ew1, nw1_0]
    refine lv_tableIn (off := 105) (tgt := 106) hx hb dX9_singleSign_1 (by decide) (by decide) rfl (by decide) ?_
    refine lv_iconst (v := 5) hx hb dX9_singleSign_106 (by decide) ?_
    exact retI (fr := fun q => q) (fw := fun _ => w) h hx hb hr hlocks hK hP hD hS dX9_singleSign_107
  · replace h := (br h).2 nw1_0
    by_cases nw1_1 : a1 = 41
    · replace h := (br h).1 nw1_1
      rw [ew1, nw1_1]
      refine lv_tableIn (off := 107) (tgt := 108) hx hb dX9_singleSign_1 (by decide) (by decide) rfl (by decide) ?_
      refine lv_bipush (v := 6) hx hb dX9_singleSign_108 (by decide) ?_
      exact retI (fr := fun q => q) (fw := fun _ => w) h hx hb hr hlocks hK hP hD hS dX9_singleSign_110
    · replace h := (br h).2 nw1_1
      by_cases nw1_2 : a1 = 42
      · replace h := (br h).1 nw1_2
        rw [ew1, nw1_2]
        refine lv_tableIn (off := 116) (tgt := 117) hx hb dX9_singleSign_1 (by decide) (by decide) rfl (by decide) ?_
        refine lv_bipush (v := 9) hx hb dX9_singleSign_117 (by decide) ?_
        exact retI (fr := fun q => q) (fw := fun _ => w) h hx hb hr hlocks hK hP hD hS dX9_singleSign_119
      · replace h := (br h).2 nw1_2
        by_cases nw1_3 : a1 = 43
        · replace h := (br h).1 nw1_3
          rw [ew1, nw1_3]
          refine lv_tableIn (off := 110) (tgt := 111) hx hb dX9_singleSign_1 (by decide) (by decide) rfl (by decide) ?_
          refine lv_bipush (v := 7) hx hb dX9_singleSign_111 (by decide) ?_
          exact retI (fr := fun q => q) (fw := fun _ => w) h hx hb hr hlocks hK hP hD hS dX9_singleSign_113
        · replace h := (br h).2 nw1_3
          by_cases nw1_4 : a1 = 45
          · replace h := (br h).1 nw1_4
            rw [ew1, nw1_4]
            refine lv_tableIn (off := 113) (tgt := 114) hx hb dX9_singleSign_1 (by decide) (by decide) rfl (by decide) ?_
            refine lv_bipush (v := 8) hx hb dX9_singleSign_114 (by decide) ?_
            exact retI (fr := fun q => q) (fw := fun _ => w) h hx hb hr hlocks hK hP hD hS dX9_singleSign_116
          · replace h := (br h).2 nw1_4
            by_cases nw1_5 : a1 = 47
            · replace h := (br h).1 nw1_5
              rw [ew1, nw1_5]
              refine lv_tableIn (off := 119) (tgt := 120) hx hb dX9_singleSign_1 (by decide) (by decide) rfl (by decide) ?_
              refine lv_bipush (v := 10) hx hb dX9_singleSign_120 (by decide) ?_
              exact retI (fr := fun q => q) (fw := fun _ => w) h hx hb hr hlocks hK hP hD hS dX9_singleSign_122
            · replace h := (br h).2 nw1_5
              by_cases nw1_6 : a1 = 59
              · replace h := (br h).1 nw1_6
                rw [ew1, nw1_6]
                refine lv_tableIn (off := 103) (tgt := 104) hx hb dX9_singleSign_1 (by decide) (by decide) rfl (by decide) ?_
                refine lv_iconst (v := 4) hx hb dX9_singleSign_104 (by decide) ?_
                exact retI (fr := fun q => q) (fw := fun _ => w) h hx hb hr hlocks hK hP hD hS dX9_singleSign_105
              · replace h := (br h).2 nw1_6
                by_cases nw1_7 : a1 = 61
                · replace h := (br h).1 nw1_7
                  rw [ew1, nw1_7]
                  refine lv_tableIn (off := 122) (tgt := 123) hx hb dX9_singleSign_1 (by decide) (by decide) rfl (by decide) ?_
                  refine lv_bipush (v := 13) hx hb dX9_singleSign_123 (by decide) ?_
                  exact retI (fr := fun q => q) (fw := fun _ => w) h hx hb hr hlocks hK hP hD hS dX9_singleSign_125
                · replace h := (br h).2 nw1_7
                  by_cases mw1_0 : a1 = 44
                  · rw [ew1, mw1_0]
                    refine lv_tableIn (off := 125) (tgt := 126) hx hb dX9_singleSign_1 (by decide) (by decide) rfl (by decide) ?_
                    refine lv_iconst (v := 1) hx hb dX9_singleSign_126 (by decide) ?_
                    exact retI (fr := fun q => q) (fw := fun _ => w) h hx hb hr hlocks hK hP hD hS dX9_singleSign_127
                  · by_cases mw1_1 : a1 = 46
                    · rw [ew1, mw1_1]
                      refine lv_tableIn (off := 125) (tgt := 126) hx hb dX9_singleSign_1 (by decide) (by decide) rfl (by decide) ?_
                      refine lv_iconst (v := 1) hx hb dX9_singleSign_126 (by decide) ?_
                      exact retI (fr := fun q => q) (fw := fun _ => w) h hx hb hr hlocks hK hP hD hS dX9_singleSign_127
                    · by_cases mw1_2 : a1 = 48
                      · rw [ew1, mw1_2]
                        refine lv_tableIn (off := 125) (tgt := 126) hx hb dX9_singleSign_1 (by decide) (by decide) rfl (by decide) ?_
                        refine lv_iconst (v := 1) hx hb dX9_singleSign_126 (by decide) ?_
                        exact retI (fr := fun q => q) (fw := fun _ => w) h hx hb hr hlocks hK hP hD hS dX9_singleSign_127
                      · by_cases mw1_3 : a1 = 49
                        · rw [ew1, mw1_3]
                          refine lv_tableIn (off := 125) (tgt := 126) hx hb dX9_singleSign_1 (by decide) (by decide) rfl (by decide) ?_
                          refine lv_iconst (v := 1) hx hb dX9_singleSign_126 (by decide) ?_
                          exact retI (fr := fun q => q) (fw := fun _ => w) h hx hb hr hlocks hK hP hD hS dX9_singleSign_127
                        · by_cases mw1_4 : a1 = 50
                          · rw [ew1, mw1_4]
                            refine lv_tableIn (off := 125) (tgt := 126) hx hb dX9_singleSign_1 (by decide) (by decide) rfl (by decide) ?_
                            refine lv_iconst (v := 1) hx hb dX9_singleSign_126 (by decide) ?_
                            exact retI (fr := fun q => q) (fw := fun _ => w) h hx hb hr hlocks hK hP hD hS dX9_singleSign_127
                          · by_cases mw1_5 : a1 = 51
                            · rw [ew1, mw1_5]
                              refine lv_tableIn (off := 125) (tgt := 126) hx hb dX9_singleSign_1 (by decide) (by decide) rfl (by decide) ?_
                              refine lv_iconst (v := 1) hx hb dX9_singleSign_126 (by decide) ?_
                              exact retI (fr := fun q => q) (fw := fun _ => w) h hx hb hr hlocks hK hP hD hS dX9_singleSign_127
                            · by_cases mw1_6 : a1 = 52
                              · rw [ew1, mw1_6]
                                refine lv_tableIn (off := 125) (tgt := 126) hx hb dX9_singleSign_1 (by decide) (by decide) rfl (by decide) ?_
                                refine lv_iconst (v := 1) hx hb dX9_singleSign_126 (by decide) ?_
                                exact retI (fr := fun q => q) (fw := fun _ => w) h hx hb hr hlocks hK hP hD hS dX9_singleSign_127
                              · by_cases mw1_7 : a1 = 53
                                · rw [ew1, mw1_7]
                                  refine lv_tableIn (off := 125) (tgt := 126) hx hb dX9_singleSign_1 (by decide) (by decide) rfl (by decide) ?_
                                  refine lv_iconst (v := 1) hx hb dX9_singleSign_126 (by decide) ?_
                                  exact retI (fr := fun q => q) (fw := fun _ => w) h hx hb hr hlocks hK hP hD hS dX9_singleSign_127
                                · by_cases mw1_8 : a1 = 54
                                  · rw [ew1, mw1_8]
                                    refine lv_tableIn (off := 125) (tgt := 126) hx hb dX9_singleSign_1 (by decide) (by decide) rfl (by decide) ?_
                                    refine lv_iconst (v := 1) hx hb dX9_singleSign_126 (by decide) ?_
                                    exact retI (fr := fun q => q) (fw := fun _ => w) h hx hb hr hlocks hK hP hD hS dX9_singleSign_127
                                  · by_cases mw1_9 : a1 = 55
                                    · rw [ew1, mw1_9]
                                      refine lv_tableIn (off := 125) (tgt := 126) hx hb dX9_singleSign_1 (by decide) (by decide) rfl (by decide) ?_
                                      refine lv_iconst (v := 1) hx hb dX9_singleSign_126 (by decide) ?_
                                      exact retI (fr := fun q => q) (fw := fun _ => w) h hx hb hr hlocks hK hP hD hS dX9_singleSign_127
                                    · by_cases mw1_10 : a1 = 56
                                      · rw [ew1, mw1_10]
                                        refine lv_tableIn (off := 125) (tgt := 126) hx hb dX9_singleSign_1 (by decide) (by decide) rfl (by decide) ?_
                                        refine lv_iconst (v := 1) hx hb dX9_singleSign_126 (by decide) ?_
                                        exact retI (fr := fun q => q) (fw := fun _ => w) h hx hb hr hlocks hK hP hD hS dX9_singleSign_127
                                      · by_cases mw1_11 : a1 = 57
                                        · rw [ew1, mw1_11]
                                          refine lv_tableIn (off := 125) (tgt := 126) hx hb dX9_singleSign_1 (by decide) (by decide) rfl (by decide) ?_
                                          refine lv_iconst (v := 1) hx hb dX9_singleSign_126 (by decide) ?_
                                          exact retI (fr := fun q => q) (fw := fun _ => w) h hx hb hr hlocks hK hP hD hS dX9_singleSign_127
                                        · by_cases mw1_12 : a1 = 58
                                          · rw [ew1, mw1_12]
                                            refine lv_tableIn (off := 125) (tgt := 126) hx hb dX9_singleSign_1 (by decide) (by decide) rfl (by decide) ?_
                                            refine lv_iconst (v := 1) hx hb dX9_singleSign_126 (by decide) ?_
                                            exact retI (fr := fun q => q) (fw := fun _ => w) h hx hb hr hlocks hK hP hD hS dX9_singleSign_127
                                          · by_cases mw1_13 : a1 = 60
                                            · rw [ew1, mw1_13]
                                              refine lv_tableIn (off := 125) (tgt := 126) hx hb dX9_singleSign_1 (by decide) (by decide) rfl (by decide) ?_
                                              refine lv_iconst (v := 1) hx hb dX9_singleSign_126 (by decide) ?_
                                              exact retI (fr := fun q => q) (fw := fun _ => w) h hx hb hr hlocks hK hP hD hS dX9_singleSign_127
                                            · rw [ew1]
                                              refine lv_tableOut (tgt := 126) hx hb dX9_singleSign_1 (by have := ne_toInt (k := 40) 40 (by decide) nw1_0; have := ne_toInt (k := 41) 41 (by decide) nw1_1; have := ne_toInt (k := 42) 42 (by decide) nw1_2; have := ne_toInt (k := 43) 43 (by decide) nw1_3; have := ne_toInt (k := 45) 45 (by decide) nw1_4; have := ne_toInt (k := 47) 47 (by decide) nw1_5; have := ne_toInt (k := 59) 59 (by decide) nw1_6; have := ne_toInt (k := 61) 61 (by decide) nw1_7; have := ne_toInt (k := 44) 44 (by decide) mw1_0; have := ne_toInt (k := 46) 46 (by decide) mw1_1; have := ne_toInt (k := 48) 48 (by decide) mw1_2; have := ne_toInt (k := 49) 49 (by decide) mw1_3; have := ne_toInt (k := 50) 50 (by decide) mw1_4; have := ne_toInt (k := 51) 51 (by decide) mw1_5; have := ne_toInt (k := 52) 52 (by decide) mw1_6; have := ne_toInt (k := 53) 53 (by decide) mw1_7; have := ne_toInt (k := 54) 54 (by decide) mw1_8; have := ne_toInt (k := 55) 55 (by decide) mw1_9; have := ne_toInt (k := 56) 56 (by decide) mw1_10; have := ne_toInt (k := 57) 57 (by decide) mw1_11; have := ne_toInt (k := 58) 58 (by decide) mw1_12; have := ne_toInt (k := 60) 60 (by decide) mw1_13; omega) (by decide) ?_
                                              refine lv_iconst (v := 1) hx hb dX9_singleSign_126 (by decide) ?_
                                              exact retI (fr := fun q => q) (fw := fun _ => w) h hx hb hr hlocks hK hP hD hS dX9_singleSign_127
theorem hds_X9_pairSign : yX9_pairSign.cls ≠ "java/lang/invoke/MethodHandle" ∧ yX9_pairSign.cls ≠ "java/lang/invoke/VarHandle" ∧ (parseMethodDescriptor yX9_pairSign.desc).map (fun d => d.parameters.length) = some 2 := ⟨by decide +kernel, by decide +kernel, by decide +kernel⟩
theorem hd_X9_pairSign : yX9_pairSign.cls = RX9 ∧ yX9_pairSign.cls ≠ "java/lang/invoke/MethodHandle" ∧ yX9_pairSign.cls ≠ "java/lang/invoke/VarHandle" ∧ (parseMethodDescriptor yX9_pairSign.desc).map (fun d => d.parameters.length) = some 2 := ⟨rfl, hds_X9_pairSign⟩
def f_X9_pairSign (a1 : Int32) (a2 : Int32) : Option (Int32) :=
  if a1 = 60 then if a2 = 61 then some 12 else if a2 = 62 then some 14 else some 1 else if a1 = 62 then if a2 = 61 then some 15 else some 1 else some 1
set_option maxHeartbeats 4000000 in
set_option maxRecDepth 100000 in
theorem k_X9_pairSign (l : Launch) (G : va_G) (cy : Nat → ClassId) (ev : Nat → Nat) (w : va_W)  (a1 : Int32) (a2 : Int32) (res : Int32) (h : f_X9_pairSign a1 a2 = some res) : MetI l yX9_pairSign cX9_pairSign 2 (some .int) 0 0 G cy ev [.int a1, .int a2] (w) res (w) := by
  refine MetQ.start (by decide +kernel) (Nat.le_of_ble_eq_true rfl) (fun p e s m args below meth c A ls hx hb hr hml hown hts hlocks hK hP hD hA hl hE => ?_)
  have hS : va_S A s.heap s.heap [] := va_S.rf
  have hown : s.vm.findClass RX9 = some m.cls := hown
  have hl : lv_has ls 2 [(0, .int a1), (1, .int a2)] := hl
  delta f_X9_pairSign at h
  refine lv_iload_n hx hb dX9_pairSign_0 rfl (lv_at hl 0 rfl) ?_
  refine lv_bipush (v := 60) hx hb dX9_pairSign_1 (by decide) ?_
  refine lv_icmp_ne (tgt := 30) hx hb dX9_pairSign_3 (by decide) (fun c9 => ?_) (fun c9 => ?_)
  · replace h := (br h).2 c9
    refine lv_iload_n hx hb dX9_pairSign_30 rfl (lv_at hl 0 rfl) ?_
    refine lv_bipush (v := 62) hx hb dX9_pairSign_31 (by decide) ?_
    refine lv_icmp_ne (tgt := 47) hx hb dX9_pairSign_33 (by decide) (fun c9 => ?_) (fun c9 => ?_)
    · replace h := (br h).2 c9
      refine lv_iconst (v := 1) hx hb dX9_pairSign_47 (by decide) ?_
      exact retI (fr := fun q => q) (fw := fun _ => w) h hx hb hr hlocks hK hP hD hS dX9_pairSign_48
    · replace h := (br h).1 c9
      refine lv_iload_n hx hb dX9_pairSign_36 rfl (lv_at hl 1 rfl) ?_
      refine lv_bipush (v := 61) hx hb dX9_pairSign_37 (by decide) ?_
      refine lv_icmp_ne (tgt := 47) hx hb dX9_pairSign_39 (by decide) (fun c9 => ?_) (fun c9 => ?_)
      · replace h := (br h).2 c9
        refine lv_iconst (v := 1) hx hb dX9_pairSign_47 (by decide) ?_
        exact retI (fr := fun q => q) (fw := fun _ => w) h hx hb hr hlocks hK hP hD hS dX9_pairSign_48
      · replace h := (br h).1 c9
        refine lv_bipush (v := 15) hx hb dX9_pairSign_42 (by decide) ?_
        refine lv_goto (tgt := 48) hx hb dX9_pairSign_44 (by decide) ?_
        exact retI (fr := fun q => q) (fw := fun _ => w) h hx hb hr hlocks hK hP hD hS dX9_pairSign_48
  · replace h := (br h).1 c9
    refine lv_iload_n hx hb dX9_pairSign_6 rfl (lv_at hl 1 rfl) ?_
    refine lv_bipush (v := 61) hx hb dX9_pairSign_7 (by decide) ?_
    refine lv_icmp_ne (tgt := 17) hx hb dX9_pairSign_9 (by decide) (fun c9 => ?_) (fun c9 => ?_)
    · replace h := (br h).2 c9
      refine lv_iload_n hx hb dX9_pairSign_17 rfl (lv_at hl 1 rfl) ?_
      refine lv_bipush (v := 62) hx hb dX9_pairSign_18 (by decide) ?_
      refine lv_icmp_ne (tgt := 28) hx hb dX9_pairSign_20 (by decide) (fun c9 => ?_) (fun c9 => ?_)
      · replace h := (br h).2 c9
        refine lv_iconst (v := 1) hx hb dX9_pairSign_28 (by decide) ?_
        exact retI (fr := fun q => q) (fw := fun _ => w) h hx hb hr hlocks hK hP hD hS dX9_pairSign_29
      · replace h := (br h).1 c9
        refine lv_bipush (v := 14) hx hb dX9_pairSign_23 (by decide) ?_
        refine lv_goto (tgt := 29) hx hb dX9_pairSign_25 (by decide) ?_
        exact retI (fr := fun q => q) (fw := fun _ => w) h hx hb hr hlocks hK hP hD hS dX9_pairSign_29
    · replace h := (br h).1 c9
      refine lv_bipush (v := 12) hx hb dX9_pairSign_12 (by decide) ?_
      refine lv_goto (tgt := 29) hx hb dX9_pairSign_14 (by decide) ?_
      exact retI (fr := fun q => q) (fw := fun _ => w) h hx hb hr hlocks hK hP hD hS dX9_pairSign_29
theorem hds_X9_takeSign : yX9_takeSign.cls ≠ "java/lang/invoke/MethodHandle" ∧ yX9_takeSign.cls ≠ "java/lang/invoke/VarHandle" ∧ (parseMethodDescriptor yX9_takeSign.desc).map (fun d => d.parameters.length) = some 3 := ⟨by decide +kernel, by decide +kernel, by decide +kernel⟩
theorem hd_X9_takeSign : yX9_takeSign.cls = RX9 ∧ yX9_takeSign.cls ≠ "java/lang/invoke/MethodHandle" ∧ yX9_takeSign.cls ≠ "java/lang/invoke/VarHandle" ∧ (parseMethodDescriptor yX9_takeSign.desc).map (fun d => d.parameters.length) = some 3 := ⟨rfl, hds_X9_takeSign⟩
def f_X9_takeSign_b73 (K : VV) (x3 : Int32) (z0 : Int32) : Option (Int32 × VV) :=
  bnd (f_X9_put K z0 x3 0) (fun q7301 => some (x3 + 1, q7301))
def f_X9_takeSign (K : VV) (a1 : Int32) (a2 : Int32) (a3 : Int32) : Option (Int32 × VV) :=
  bnd (f_X9_singleSign a1) (fun q1 => if q1 = 1 then bnd (f_X9_pairSign a1 a2) (fun q3 => if q3 = 1 then if a1 = 60 then f_X9_takeSign_b73 K a3 11 else if a1 = 62 then f_X9_takeSign_b73 K a3 16 else f_X9_takeSign_b73 K a3 1 else bnd (f_X9_put K q3 a3 0) (fun q5 => some (a3 + 2, q5))) else bnd (f_X9_put K q1 a3 0) (fun q7 => some (a3 + 1, q7)))
set_option maxHeartbeats 4000000 in
set_option maxRecDepth 100000 in
theorem k_X9_takeSign (l : Launch) (G : va_G) (cy : Nat → ClassId) (ev : Nat → Nat) (adK : Nat → Nat) (K : VV) (a1 : Int32) (a2 : Int32) (a3 : Int32) (res : Int32 × VV) (h : f_X9_takeSign K a1 a2 a3 = some res) : MetI l yX9_takeSign cX9_takeSign 6 (some .int) 1 23 G cy ev [.ref (adK 0), .int a1, .int a2, .int a3] (wj [cX9 cy adK K]) res.1 (wj [cX9 cy adK res.2]) := by
  refine MetQ.start (by decide +kernel) (Nat.le_of_ble_eq_true rfl) (fun p e s m args below meth c A ls hx hb hr hml hown hts hlocks hK hP hD hA hl hE => ?_)
  have hS : va_S A s.heap s.heap [] := va_S.rf
  have hown : s.vm.findClass RX9 = some m.cls := hown
  have hl : lv_has ls 6 [(0, .ref (adK 0)), (1, .int a1), (2, .int a2), (3, .int a3)] := hl
  have B73 : ∀ (x3 : Int32) (z0 : Int32) (K : VV) (H : Heap) (locs : List Loc) (ls : Array Slot), f_X9_takeSign_b73 K x3 z0 = some res → va_P G vwCl (wj [cX9 cy adK K]) H → va_D A (wj [cX9 cy adK K]) → va_S A s.heap H locs → lv_has ls 6 [(3, .int x3)] → W p l e (rmX 1 23) s m args below meth c H locs 0 0 (MQ below (mQi (res.1) G cy A (wj [cX9 cy adK res.2])) args s 0 0 A) (F0 m 73 ls [.int z0, .ref (adK 0)]) := by
    intro x3 z0 K H locs ls h hP hD hS hl
    delta f_X9_takeSign_b73 at h
    refine lv_iload_n hx hb dX9_takeSign_73 rfl (lv_at hl 0 rfl) ?_
    refine lv_iconst (v := 0) hx hb dX9_takeSign_74 (by decide) ?_
    replace h := bd h
    obtain ⟨q7301, h7302, h⟩ := h
    refine callWVv (As := [.int z0, .int x3, .int 0]) (rest := []) (cs' := [cX9 cy adK q7301]) (isC := [0]) (isR := []) hx hb hml hown hts (k_X9_put l G cy ev adK K z0 x3 0 q7301 h7302) wm_13_0 wm_13_1 wm_13_2 wm_3_15 wm_13_3 hd_X9_put ⟨by decide, by decide⟩ hK hP hD hS hA hE rfl rfl rfl (cov_of (n := 1) rfl (by decide)) (by decide) rfl (recvW (ci := 0) hK hP rfl cX9_o rfl) rfl rfl hl.1 (Nat.le_of_ble_eq_true rfl) dX9_takeSign_75 (fun H locs hP hD hS => ?_)
    refine lv_iload_n hx hb dX9_takeSign_78 rfl (lv_at hl 0 rfl) ?_
    refine lv_iconst (v := 1) hx hb dX9_takeSign_79 (by decide) ?_
    refine lv_iadd hx hb dX9_takeSign_80 ?_
    exact retI (fr := fun q => q.1) (fw := fun q => wj [cX9 cy adK q.2]) h hx hb hr hlocks hK hP hD hS dX9_takeSign_81
  delta f_X9_takeSign at h
  refine lv_iload_n hx hb dX9_takeSign_0 rfl (lv_at hl 1 rfl) ?_
  replace h := bd h
  obtain ⟨q1, h2, h⟩ := h
  refine callSi0 (As := [.int a1]) (rest := []) hx hb hml hown hts (k_X9_singleSign l G cy ev (wj [cX9 cy adK K]) a1 q1 h2) wm_16_1 wm_16_2 wm_3_15 wm_16_3 hd_X9_singleSign ⟨by decide, by decide⟩ hK hP hD hS hA hE rfl rfl hl.1 (Nat.le_of_ble_eq_true rfl) dX9_takeSign_1 (fun H locs hP hD hS => ?_)
  refine lv_istore (lv' := [(4, .int q1), (0, .ref (adK 0)), (1, .int a1), (2, .int a2), (3, .int a3)]) hx hb dX9_takeSign_4 hl (by decide) rfl (fun ls hl => ?_)
  refine lv_iload hx hb dX9_takeSign_6 (lv_at hl 0 rfl) ?_
  refine lv_iconst (v := 1) hx hb dX9_takeSign_8 (by decide) ?_
  refine lv_icmp_eq (tgt := 24) hx hb dX9_takeSign_9 (by decide) (fun c9 => ?_) (fun c9 => ?_)
  · replace h := (br h).1 c9
    refine lv_iload_n hx hb dX9_takeSign_24 rfl (lv_at hl 2 rfl) ?_
    refine lv_iload_n hx hb dX9_takeSign_25 rfl (lv_at hl 3 rfl) ?_
    replace h := bd h
    obtain ⟨q3, h4, h⟩ := h
    refine callSi0 (As := [.int a1, .int a2]) (rest := []) hx hb hml hown hts (k_X9_pairSign l G cy ev (wj [cX9 cy adK K]) a1 a2 q3 h4) wm_16_4 wm_16_5 wm_3_15 wm_16_6 hd_X9_pairSign ⟨by decide, by decide⟩ hK hP hD hS hA hE rfl rfl hl.1 (Nat.le_of_ble_eq_true rfl) dX9_takeSign_26 (fun H locs hP hD hS => ?_)
    refine lv_istore (lv' := [(5, .int q3), (4, .int q1), (0, .ref (adK 0)), (1, .int a1), (2, .int a2), (3, .int a3)]) hx hb dX9_takeSign_29 hl (by decide) rfl (fun ls hl => ?_)
    refine lv_iload hx hb dX9_takeSign_31 (lv_at hl 0 rfl) ?_
    refine lv_iconst (v := 1) hx hb dX9_takeSign_33 (by decide) ?_
    refine lv_icmp_eq (tgt := 49) hx hb dX9_takeSign_34 (by decide) (fun c9 => ?_) (fun c9 => ?_)
    · replace h := (br h).1 c9
      refine lv_aload_n hx hb dX9_takeSign_49 rfl (lv_at hl 2 rfl) ?_
      refine lv_iload_n hx hb dX9_takeSign_50 rfl (lv_at hl 3 rfl) ?_
      refine lv_bipush (v := 60) hx hb dX9_takeSign_51 (by decide) ?_
      refine lv_icmp_ne (tgt := 61) hx hb dX9_takeSign_53 (by decide) (fun c9 => ?_) (fun c9 => ?_)
      · replace h := (br h).2 c9
        refine lv_iload_n hx hb dX9_takeSign_61 rfl (lv_at hl 3 rfl) ?_
        refine lv_bipush (v := 62) hx hb dX9_takeSign_62 (by decide) ?_
        refine lv_icmp_ne (tgt := 72) hx hb dX9_takeSign_64 (by decide) (fun c9 => ?_) (fun c9 => ?_)
        · replace h := (br h).2 c9
          refine lv_iconst (v := 1) hx hb dX9_takeSign_72 (by decide) ?_
          exact B73 a3 1 K _ _ _ h hP hD hS (lv_sub hl [5] rfl)
        · replace h := (br h).1 c9
          refine lv_bipush (v := 16) hx hb dX9_takeSign_67 (by decide) ?_
          refine lv_goto (tgt := 73) hx hb dX9_takeSign_69 (by decide) ?_
          exact B73 a3 16 K _ _ _ h hP hD hS (lv_sub hl [5] rfl)
      · replace h := (br h).1 c9
        refine lv_bipush (v := 11) hx hb dX9_takeSign_56 (by decide) ?_
        refine lv_goto (tgt := 73) hx hb dX9_takeSign_58 (by decide) ?_
        exact B73 a3 11 K _ _ _ h hP hD hS (lv_sub hl [5] rfl)
    · replace h := (br h).2 c9
      refine lv_aload_n hx hb dX9_takeSign_37 rfl (lv_at hl 2 rfl) ?_
      refine lv_iload hx hb dX9_takeSign_38 (lv_at hl 0 rfl) ?_
      refine lv_iload_n hx hb dX9_takeSign_40 rfl (lv_at hl 5 rfl) ?_
      refine lv_iconst (v := 0) hx hb dX9_takeSign_41 (by decide) ?_
      replace h := bd h
      obtain ⟨q5, h6, h⟩ := h
      refine callWVv (As := [.int q3, .int a3, .int 0]) (rest := []) (cs' := [cX9 cy adK q5]) (isC := [0]) (isR := []) hx hb hml hown hts (k_X9_put l G cy ev adK K q3 a3 0 q5 h6) wm_13_0 wm_13_1 wm_13_2 wm_3_15 wm_13_3 hd_X9_put ⟨by decide, by decide⟩ hK hP hD hS hA hE rfl rfl rfl (cov_of (n := 1) rfl (by decide)) (by decide) rfl (recvW (ci := 0) hK hP rfl cX9_o rfl) rfl rfl hl.1 (Nat.le_of_ble_eq_true rfl) dX9_takeSign_42 (fun H locs hP hD hS => ?_)
      refine lv_iload_n hx hb dX9_takeSign_45 rfl (lv_at hl 5 rfl) ?_
      refine lv_iconst (v := 2) hx hb dX9_takeSign_46 (by decide) ?_
      refine lv_iadd hx hb dX9_takeSign_47 ?_
      exact retI (fr := fun q => q.1) (fw := fun q => wj [cX9 cy adK q.2]) h hx hb hr hlocks hK hP hD hS dX9_takeSign_48
  · replace h := (br h).2 c9
    refine lv_aload_n hx hb dX9_takeSign_12 rfl (lv_at hl 1 rfl) ?_
    refine lv_iload hx hb dX9_takeSign_13 (lv_at hl 0 rfl) ?_
    refine lv_iload_n hx hb dX9_takeSign_15 rfl (lv_at hl 4 rfl) ?_
    refine lv_iconst (v := 0) hx hb dX9_takeSign_16 (by decide) ?_
    replace h := bd h
    obtain ⟨q7, h8, h⟩ := h
    refine callWVv (As := [.int q1, .int a3, .int 0]) (rest := []) (cs' := [cX9 cy adK q7]) (isC := [0]) (isR := []) hx hb hml hown hts (k_X9_put l G cy ev adK K q1 a3 0 q7 h8) wm_13_0 wm_13_1 wm_13_2 wm_3_15 wm_13_3 hd_X9_put ⟨by decide, by decide⟩ hK hP hD hS hA hE rfl rfl rfl (cov_of (n := 1) rfl (by decide)) (by decide) rfl (recvW (ci := 0) hK hP rfl cX9_o rfl) rfl rfl hl.1 (Nat.le_of_ble_eq_true rfl) dX9_takeSign_17 (fun H locs hP hD hS => ?_)
    refine lv_iload_n hx hb dX9_takeSign_20 rfl (lv_at hl 4 rfl) ?_
    refine lv_iconst (v := 1) hx hb dX9_takeSign_21 (by decide) ?_
    refine lv_iadd hx hb dX9_takeSign_22 ?_
    exact retI (fr := fun q => q.1) (fw := fun q => wj [cX9 cy adK q.2]) h hx hb hr hlocks hK hP hD hS dX9_takeSign_23
theorem hds_X9_split : yX9_split.cls ≠ "java/lang/invoke/MethodHandle" ∧ yX9_split.cls ≠ "java/lang/invoke/VarHandle" ∧ (parseMethodDescriptor yX9_split.desc).map (fun d => d.parameters.length) = some 2 := ⟨by decide +kernel, by decide +kernel, by decide +kernel⟩
theorem hd_X9_split : yX9_split.cls = RX9 ∧ yX9_split.cls ≠ "java/lang/invoke/MethodHandle" ∧ yX9_split.cls ≠ "java/lang/invoke/VarHandle" ∧ (parseMethodDescriptor yX9_split.desc).map (fun d => d.parameters.length) = some 2 := ⟨rfl, hds_X9_split⟩
def f_X9_split_b114 (N : Nat) (K : VV) (T : Nat → Int32) (x3 : Int32) (x4 : Int32) (x5 : Int32) : Option (((Int32 × Int32 × VV) ⊕ (VV))) :=
  some (.inl (x4, jmax (x5 + 1) x4, K))
def f_X9_split_b107 (N : Nat) (K : VV) (T : Nat → Int32) (x3 : Int32) (x5 : Int32) (z0 : Int32) (z1 : Int32) : Option (((Int32 × Int32 × VV) ⊕ (VV))) :=
  bnd (f_X9_takeSign K z1 z0 x5) (fun q10701 => f_X9_split_b114 N q10701.2 T x3 q10701.1 x5)
def f_X9_split_s18 (N : Nat) (K : VV) (T : Nat → Int32) (x3 : Int32) (x4 : Int32) (x5 : Int32) : Option (((Int32 × Int32 × VV) ⊕ (VV))) :=
  if x3 ≤ x5 then inrO (bnd (f_X9_put K 0 x3 0) (fun q1801 => some q1801)) else gin x5 700 (bnd (f_X9_isDigit (T x5.toNatClampNeg)) (fun q1803 => if q1803 = 0 then bnd (f_X9_isLetter (T x5.toNatClampNeg)) (fun q1805 => if q1805 = 0 then if T x5.toNatClampNeg = 32 then f_X9_split_b114 N K T x3 x4 x5 else if T x5.toNatClampNeg = 10 then f_X9_split_b114 N K T x3 x4 x5 else if x3 ≤ x5 + 1 then f_X9_split_b107 N K T x3 x5 0 (T x5.toNatClampNeg) else gin (x5 + 1) 700 (f_X9_split_b107 N K T x3 x5 (T ((x5 + 1).toNatClampNeg)) (T x5.toNatClampNeg)) else bnd (f_X9_takeWord N K T x3 x5) (fun q1807 => f_X9_split_b114 N q1807.2 T x3 q1807.1 x5)) else bnd (f_X9_takeNumber N K T x3 x5) (fun q1809 => f_X9_split_b114 N q1809.2 T x3 q1809.1 x5)))
def f_X9_split (N : Nat) (K : VV) (T : Nat → Int32) (a2 : Int32) : Option (VV) :=
  itr (fun q : Int32 × Int32 × VV => f_X9_split_s18 N q.2.2 T (jmin a2 700) q.1 q.2.1) N (0, 0, si K 3 0)
set_option maxHeartbeats 4000000 in
set_option maxRecDepth 100000 in
theorem k_X9_split (l : Launch) (G : va_G) (cy : Nat → ClassId) (ev : Nat → Nat) (N : Nat) (adK : Nat → Nat) (K : VV) (adT : Nat) (T : Nat → Int32) (a2 : Int32) (res : VV) (h : f_X9_split N K T a2 = some res) : MetV l yX9_split cX9_split 7 none 7 160 G cy ev [.ref (adK 0), .ref adT, .int a2] (wj [cX9 cy adK K, [(adT, .inl (cy 0, 700, .inl T))]]) (wj [cX9 cy adK res, [(adT, .inl (cy 0, 700, .inl T))]]) := by
  refine MetQ.start (by decide +kernel) (Nat.le_of_ble_eq_true rfl) (fun p e s m args below meth c A ls hx hb hr hml hown hts hlocks hK hP hD hA hl hE => ?_)
  have hS : va_S A s.heap s.heap [] := va_S.rf
  have hown : s.vm.findClass RX9 = some m.cls := hown
  have hl : lv_has ls 7 [(0, .ref (adK 0)), (1, .ref adT), (2, .int a2)] := hl
  have L18 : ∀ (x3 : Int32) (n : Nat) (x4 : Int32) (x5 : Int32) (K : VV) (H : Heap) (locs : List Loc) (ls : Array Slot), itr (fun q : Int32 × Int32 × VV => f_X9_split_s18 N q.2.2 T x3 q.1 q.2.1) n (x4, x5, K) = some res → va_P G vwCl (wj [cX9 cy adK K, [(adT, .inl (cy 0, 700, .inl T))]]) H → va_D A (wj [cX9 cy adK K, [(adT, .inl (cy 0, 700, .inl T))]]) → va_S A s.heap H locs → lv_has ls 7 [(0, .ref (adK 0)), (1, .ref adT), (3, .int x3), (4, .int x4), (5, .int x5)] → W p l e (rmX 7 160) s m args below meth c H locs 0 0 (MQ below (mQv G cy A (wj [cX9 cy adK res, [(adT, .inl (cy 0, 700, .inl T))]])) args s 0 0 A) (F0 m 18 ls []) := by
    intro x3 n
    induction n with
    | zero => intro x4 x5 K H locs ls h; exact (itr_zero h).elim
    | succ n ih1 =>
      intro x4 x5 K H locs ls h hP hD hS hl
      obtain ⟨y1, h, hy1⟩ := itr_inv h
      have h : f_X9_split_s18 N K T x3 x4 x5 = some y1 := h
      have B114 : ∀ (x4 : Int32) (x5 : Int32) (K : VV) (H : Heap) (locs : List Loc) (ls : Array Slot), f_X9_split_b114 N K T x3 x4 x5 = some y1 → va_P G vwCl (wj [cX9 cy adK K, [(adT, .inl (cy 0, 700, .inl T))]]) H → va_D A (wj [cX9 cy adK K, [(adT, .inl (cy 0, 700, .inl T))]]) → va_S A s.heap H locs → lv_has ls 7 [(0, .ref (adK 0)), (1, .ref adT), (3, .int x3), (4, .int x4), (5, .int x5)] → W p l e (rmX 7 160) s m args below meth c H locs 0 0 (MQ below (mQv G cy A (wj [cX9 cy adK res, [(adT, .inl (cy 0, 700, .inl T))]])) args s 0 0 A) (F0 m 114 ls []) := by
        intro x4 x5 K H locs ls h hP hD hS hl
        delta f_X9_split_b114 at h
        refine lv_iload hx hb dX9_split_114 (lv_at hl 4 rfl) ?_
        refine lv_iconst (v := 1) hx hb dX9_split_116 (by decide) ?_
        refine lv_iadd hx hb dX9_split_117 ?_
        refine lv_iload hx hb dX9_split_118 (lv_at hl 3 rfl) ?_
        refine mmax hx hb (by rw [hml]; exact hl.1.symm) hown (hts _ wm_12_13) hts (by decide) (Nat.le_of_ble_eq_true rfl) dX9_split_120 ?_
        refine lv_istore (lv' := [(5, .int (jmax (x5 + 1) x4)), (0, .ref (adK 0)), (1, .ref adT), (3, .int x3), (4, .int x4)]) hx hb dX9_split_123 hl (by decide) rfl (fun ls hl => ?_)
        refine lv_goto (tgt := 18) hx hb dX9_split_125 (by decide) ?_
        replace h := itr_back h hy1
        exact ih1 x4 (jmax (x5 + 1) x4) K _ _ _ h hP hD hS (lv_sub hl [1, 2, 3, 4, 0] rfl)
      have B107 : ∀ (x5 : Int32) (z0 : Int32) (z1 : Int32) (K : VV) (H : Heap) (locs : List Loc) (ls : Array Slot), f_X9_split_b107 N K T x3 x5 z0 z1 = some y1 → va_P G vwCl (wj [cX9 cy adK K, [(adT, .inl (cy 0, 700, .inl T))]]) H → va_D A (wj [cX9 cy adK K, [(adT, .inl (cy 0, 700, .inl T))]]) → va_S A s.heap H locs → lv_has ls 7 [(0, .ref (adK 0)), (1, .ref adT), (3, .int x3), (5, .int x5)] → W p l e (rmX 7 160) s m args below meth c H locs 0 0 (MQ below (mQv G cy A (wj [cX9 cy adK res, [(adT, .inl (cy 0, 700, .inl T))]])) args s 0 0 A) (F0 m 107 ls [.int z0, .int z1, .ref (adK 0)]) := by
        intro x5 z0 z1 K H locs ls h hP hD hS hl
        delta f_X9_split_b107 at h
        refine lv_iload hx hb dX9_split_107 (lv_at hl 3 rfl) ?_
        replace h := bd h
        obtain ⟨q10701, h10702, h⟩ := h
        refine callWVi (As := [.int z1, .int z0, .int x5]) (rest := []) (cs' := [cX9 cy adK q10701.2, [(adT, .inl (cy 0, 700, .inl T))]]) (isC := [0]) (isR := [1]) hx hb hml hown hts (k_X9_takeSign l G cy ev adK K z1 z0 x5 q10701 h10702) wm_15_21 wm_15_22 wm_15_23 wm_3_15 wm_16_0 hd_X9_takeSign ⟨by decide, by decide⟩ hK hP hD hS hA hE rfl rfl rfl (cov_of (n := 2) rfl (by decide)) (by decide) rfl (recvW (ci := 0) hK hP rfl cX9_o rfl) rfl rfl hl.1 (Nat.le_of_ble_eq_true rfl) dX9_split_109 (fun H locs hP hD hS => ?_)
        refine lv_istore (lv' := [(4, .int q10701.1), (0, .ref (adK 0)), (1, .ref adT), (3, .int x3), (5, .int x5)]) hx hb dX9_split_112 hl (by decide) rfl (fun ls hl => ?_)
        exact B114 q10701.1 x5 q10701.2 _ _ _ h hP hD hS (lv_sub hl [1, 2, 3, 0, 4] rfl)
      delta f_X9_split_s18 at h
      refine lv_iload hx hb dX9_split_18 (lv_at hl 4 rfl) ?_
      refine lv_iload_n hx hb dX9_split_20 rfl (lv_at hl 2 rfl) ?_
      refine lv_icmp_ge (tgt := 128) hx hb dX9_split_21 (by decide) (fun c9 => ?_) (fun c9 => ?_)
      · replace h := (br h).1 c9
        replace h := itr_exit h hy1
        refine lv_aload_n hx hb dX9_split_128 rfl (lv_at hl 0 rfl) ?_
        refine lv_iconst (v := 0) hx hb dX9_split_129 (by decide) ?_
        refine lv_iload_n hx hb dX9_split_130 rfl (lv_at hl 2 rfl) ?_
        refine lv_iconst (v := 0) hx hb dX9_split_131 (by decide) ?_
        replace h := bd h
        obtain ⟨q1801, h1802, h⟩ := h
        refine callWVv (As := [.int 0, .int x3, .int 0]) (rest := []) (cs' := [cX9 cy adK q1801, [(adT, .inl (cy 0, 700, .inl T))]]) (isC := [0]) (isR := [1]) hx hb hml hown hts (k_X9_put l G cy ev adK K 0 x3 0 q1801 h1802) wm_13_0 wm_13_1 wm_13_2 wm_3_15 wm_13_3 hd_X9_put ⟨by decide, by decide⟩ hK hP hD hS hA hE rfl rfl rfl (cov_of (n := 2) rfl (by decide)) (by decide) rfl (recvW (ci := 0) hK hP rfl cX9_o rfl) rfl rfl hl.1 (Nat.le_of_ble_eq_true rfl) dX9_split_132 (fun H locs hP hD hS => ?_)
        exact retV (fw := fun q => wj [cX9 cy adK q, [(adT, .inl (cy 0, 700, .inl T))]]) h hx hb hr hlocks hK hP hD hS dX9_split_135
      · replace h := (br h).2 c9
        refine lv_aload_n hx hb dX9_split_24 rfl (lv_at hl 1 rfl) ?_
        refine lv_iload hx hb dX9_split_25 (lv_at hl 4 rfl) ?_
        replace h := gin_inv h
        obtain ⟨h9, h⟩ := h
        refine ldWB (ci := 1) (k0 := 0) (g := T) (j := x5.toNatClampNeg) hx hb hK hP rfl rfl rfl h9 rfl dX9_split_27 ?_
        refine lv_istore (lv' := [(6, .int (T x5.toNatClampNeg)), (0, .ref (adK 0)), (1, .ref adT), (3, .int x3), (4, .int x4), (5, .int x5)]) hx hb dX9_split_28 hl (by decide) rfl (fun ls hl => ?_)
        refine lv_iload hx hb dX9_split_30 (lv_at hl 0 rfl) ?_
        replace h := bd h
        obtain ⟨q1803, h1804, h⟩ := h
        refine callSi0 (As := [.int (T x5.toNatClampNeg)]) (rest := []) hx hb hml hown hts (k_X9_isDigit l G cy ev (wj [cX9 cy adK K, [(adT, .inl (cy 0, 700, .inl T))]]) (T x5.toNatClampNeg) q1803 h1804) wm_12_16 wm_12_17 wm_3_15 wm_12_18 hd_X9_isDigit ⟨by decide, by decide⟩ hK hP hD hS hA hE rfl rfl hl.1 (Nat.le_of_ble_eq_true rfl) dX9_split_32 (fun H locs hP hD hS => ?_)
        refine lv_if_eq (tgt := 51) hx hb dX9_split_35 (by decide) (fun c9 => ?_) (fun c9 => ?_)
        · replace h := (br h).1 c9
          refine lv_iload hx hb dX9_split_51 (lv_at hl 0 rfl) ?_
          replace h := bd h
          obtain ⟨q1805, h1806, h⟩ := h
          refine callSi0 (As := [.int (T x5.toNatClampNeg)]) (rest := []) hx hb hml hown hts (k_X9_isLetter l G cy ev (wj [cX9 cy adK K, [(adT, .inl (cy 0, 700, .inl T))]]) (T x5.toNatClampNeg) q1805 h1806) wm_13_4 wm_13_5 wm_3_15 wm_13_6 hd_X9_isLetter ⟨by decide, by decide⟩ hK hP hD hS hA hE rfl rfl hl.1 (Nat.le_of_ble_eq_true rfl) dX9_split_53 (fun H locs hP hD hS => ?_)
          refine lv_if_eq (tgt := 72) hx hb dX9_split_56 (by decide) (fun c9 => ?_) (fun c9 => ?_)
          · replace h := (br h).1 c9
            refine lv_iload hx hb dX9_split_72 (lv_at hl 0 rfl) ?_
            refine lv_bipush (v := 32) hx hb dX9_split_74 (by decide) ?_
            refine lv_icmp_eq (tgt := 114) hx hb dX9_split_76 (by decide) (fun c9 => ?_) (fun c9 => ?_)
            · replace h := (br h).1 c9
              exact B114 x4 x5 K _ _ _ h hP hD hS (lv_sub hl [1, 2, 3, 4, 5] rfl)
            · replace h := (br h).2 c9
              refine lv_iload hx hb dX9_split_79 (lv_at hl 0 rfl) ?_
              refine lv_bipush (v := 10) hx hb dX9_split_81 (by decide) ?_
              refine lv_icmp_eq (tgt := 114) hx hb dX9_split_83 (by decide) (fun c9 => ?_) (fun c9 => ?_)
              · replace h := (br h).1 c9
                exact B114 x4 x5 K _ _ _ h hP hD hS (lv_sub hl [1, 2, 3, 4, 5] rfl)
              · replace h := (br h).2 c9
                refine lv_aload_n hx hb dX9_split_86 rfl (lv_at hl 1 rfl) ?_
                refine lv_iload hx hb dX9_split_87 (lv_at hl 0 rfl) ?_
                refine lv_iload hx hb dX9_split_89 (lv_at hl 5 rfl) ?_
                refine lv_iconst (v := 1) hx hb dX9_split_91 (by decide) ?_
                refine lv_iadd hx hb dX9_split_92 ?_
                refine lv_iload_n hx hb dX9_split_93 rfl (lv_at hl 3 rfl) ?_
                refine lv_icmp_ge (tgt := 106) hx hb dX9_split_94 (by decide) (fun c9 => ?_) (fun c9 => ?_)
                · replace h := (br h).1 c9
                  refine lv_iconst (v := 0) hx hb dX9_split_106 (by decide) ?_
                  exact B107 x5 0 (T x5.toNatClampNeg) K _ _ _ h hP hD hS (lv_sub hl [1, 2, 3, 5] rfl)
                · replace h := (br h).2 c9
                  refine lv_aload_n hx hb dX9_split_97 rfl (lv_at hl 2 rfl) ?_
                  refine lv_iload hx hb dX9_split_98 (lv_at hl 5 rfl) ?_
                  refine lv_iconst (v := 1) hx hb dX9_split_100 (by decide) ?_
                  refine lv_iadd hx hb dX9_split_101 ?_
                  replace h := gin_inv h
                  obtain ⟨h9, h⟩ := h
                  refine ldWB (ci := 1) (k0 := 0) (g := T) (j := (x5 + 1).toNatClampNeg) hx hb hK hP rfl rfl rfl h9 rfl dX9_split_102 ?_
                  refine lv_goto (tgt := 107) hx hb dX9_split_103 (by decide) ?_
                  exact B107 x5 (T ((x5 + 1).toNatClampNeg)) (T x5.toNatClampNeg) K _ _ _ h hP hD hS (lv_sub hl [1, 2, 3, 5] rfl)
          · replace h := (br h).2 c9
            refine lv_aload_n hx hb dX9_split_59 rfl (lv_at hl 1 rfl) ?_
            refine lv_aload_n hx hb dX9_split_60 rfl (lv_at hl 2 rfl) ?_
            refine lv_iload_n hx hb dX9_split_61 rfl (lv_at hl 3 rfl) ?_
            refine lv_iload hx hb dX9_split_62 (lv_at hl 5 rfl) ?_
            replace h := bd h
            obtain ⟨q1807, h1808, h⟩ := h
            refine callWVi (As := [.ref adT, .int x3, .int x5]) (rest := []) (cs' := [cX9 cy adK q1807.2, [(adT, .inl (cy 0, 700, .inl T))]]) (isC := [0, 1]) (isR := []) hx hb hml hown hts (k_X9_takeWord l G cy ev N adK K adT T x3 x5 q1807 h1808) wm_13_7 wm_13_8 wm_13_9 wm_3_15 wm_13_10 hd_X9_takeWord ⟨by decide, by decide⟩ hK hP hD hS hA hE rfl rfl rfl (cov_of (n := 2) rfl (by decide)) (by decide) rfl (recvW (ci := 0) hK hP rfl cX9_o rfl) rfl rfl hl.1 (Nat.le_of_ble_eq_true rfl) dX9_split_64 (fun H locs hP hD hS => ?_)
            refine lv_istore (lv' := [(4, .int q1807.1), (6, .int (T x5.toNatClampNeg)), (0, .ref (adK 0)), (1, .ref adT), (3, .int x3), (5, .int x5)]) hx hb dX9_split_67 hl (by decide) rfl (fun ls hl => ?_)
            refine lv_goto (tgt := 114) hx hb dX9_split_69 (by decide) ?_
            exact B114 q1807.1 x5 q1807.2 _ _ _ h hP hD hS (lv_sub hl [2, 3, 4, 0, 5] rfl)
        · replace h := (br h).2 c9
          refine lv_aload_n hx hb dX9_split_38 rfl (lv_at hl 1 rfl) ?_
          refine lv_aload_n hx hb dX9_split_39 rfl (lv_at hl 2 rfl) ?_
          refine lv_iload_n hx hb dX9_split_40 rfl (lv_at hl 3 rfl) ?_
          refine lv_iload hx hb dX9_split_41 (lv_at hl 5 rfl) ?_
          replace h := bd h
          obtain ⟨q1809, h1810, h⟩ := h
          refine callWVi (As := [.ref adT, .int x3, .int x5]) (rest := []) (cs' := [cX9 cy adK q1809.2, [(adT, .inl (cy 0, 700, .inl T))]]) (isC := [0, 1]) (isR := []) hx hb hml hown hts (k_X9_takeNumber l G cy ev N adK K adT T x3 x5 q1809 h1810) wm_12_19 wm_12_20 wm_12_21 wm_3_15 wm_12_22 hd_X9_takeNumber ⟨by decide, by decide⟩ hK hP hD hS hA hE rfl rfl rfl (cov_of (n := 2) rfl (by decide)) (by decide) rfl (recvW (ci := 0) hK hP rfl cX9_o rfl) rfl rfl hl.1 (Nat.le_of_ble_eq_true rfl) dX9_split_43 (fun H locs hP hD hS => ?_)
          refine lv_istore (lv' := [(4, .int q1809.1), (6, .int (T x5.toNatClampNeg)), (0, .ref (adK 0)), (1, .ref adT), (3, .int x3), (5, .int x5)]) hx hb dX9_split_46 hl (by decide) rfl (fun ls hl => ?_)
          refine lv_goto (tgt := 114) hx hb dX9_split_48 (by decide) ?_
          exact B114 q1809.1 x5 q1809.2 _ _ _ h hP hD hS (lv_sub hl [2, 3, 4, 0, 5] rfl)
  delta f_X9_split at h
  refine lv_iload_n hx hb dX9_split_0 rfl (lv_at hl 2 rfl) ?_
  refine lv_aload_n hx hb dX9_split_1 rfl (lv_at hl 1 rfl) ?_
  refine alW (v := 700) (tk := 0) (ci := 1) (k0 := 0) hx hb hK hP rfl rfl rfl (by decide) dX9_split_2 ?_
  refine mmin hx hb (by rw [hml]; exact hl.1.symm) hown (hts _ wm_12_9) hts (by decide) (Nat.le_of_ble_eq_true rfl) dX9_split_3 ?_
  refine lv_istore_n (lv' := [(3, .int (jmin a2 700)), (0, .ref (adK 0)), (1, .ref adT), (2, .int a2)]) hx hb dX9_split_6 rfl hl (by decide) rfl (fun ls hl => ?_)
  refine lv_aload_n hx hb dX9_split_7 rfl (lv_at hl 1 rfl) ?_
  refine lv_iconst (v := 0) hx hb dX9_split_8 (by decide) ?_
  refine po_9_21 (ci := 0) (cs' := [cX9 cy adK (si K 3 0), [(adT, .inl (cy 0, 700, .inl T))]]) hx hb hts hown hK hE hP hD hS rfl rfl dX9_split_9 (fun H locs hP hD hS => ?_)
  refine lv_iconst (v := 0) hx hb dX9_split_12 (by decide) ?_
  refine lv_istore (lv' := [(4, .int 0), (3, .int (jmin a2 700)), (0, .ref (adK 0)), (1, .ref adT), (2, .int a2)]) hx hb dX9_split_13 hl (by decide) rfl (fun ls hl => ?_)
  refine lv_iconst (v := 0) hx hb dX9_split_15 (by decide) ?_
  refine lv_istore (lv' := [(5, .int 0), (4, .int 0), (3, .int (jmin a2 700)), (0, .ref (adK 0)), (1, .ref adT), (2, .int a2)]) hx hb dX9_split_16 hl (by decide) rfl (fun ls hl => ?_)
  exact L18 (jmin a2 700) N 0 0 (si K 3 0) _ _ _ h hP hD hS (lv_sub hl [3, 4, 2, 1, 0] rfl)
theorem hds_X3_clear : yX3_clear.cls ≠ "java/lang/invoke/MethodHandle" ∧ yX3_clear.cls ≠ "java/lang/invoke/VarHandle" ∧ (parseMethodDescriptor yX3_clear.desc).map (fun d => d.parameters.length) = some 0 := ⟨by decide +kernel, by decide +kernel, by decide +kernel⟩
theorem hd_X3_clear : yX3_clear.cls = RX3 ∧ yX3_clear.cls ≠ "java/lang/invoke/MethodHandle" ∧ yX3_clear.cls ≠ "java/lang/invoke/VarHandle" ∧ (parseMethodDescriptor yX3_clear.desc).map (fun d => d.parameters.length) = some 0 := ⟨rfl, hds_X3_clear⟩
def f_X3_clear_s12 (N : Nat) (L : VV) (x1 : Int32) : Option (((Int32 × VV) ⊕ (VV))) :=
  if (3 : Int32) ≤ x1 then inrO (some L) else gin x1 3 (gin x1 3 (some (.inl (x1 + 1, sr (sr L 4 x1.toNatClampNeg 0) 5 x1.toNatClampNeg 0))))
def f_X3_clear (N : Nat) (L : VV) : Option (VV) :=
  itr (fun q : Int32 × VV => f_X3_clear_s12 N q.2 q.1) N (0, si (si L 2 0) 3 0)
set_option maxHeartbeats 4000000 in
set_option maxRecDepth 100000 in
theorem k_X3_clear (l : Launch) (G : va_G) (cy : Nat → ClassId) (ev : Nat → Nat) (N : Nat) (adL : Nat → Nat) (L : VV)  (res : VV) (h : f_X3_clear N L = some res) : MetV l yX3_clear cX3_clear 2 none 0 0 G cy ev [.ref (adL 0)] (wj [cX3 cy adL L]) (wj [cX3 cy adL res]) := by
  refine MetQ.start (by decide +kernel) (Nat.le_of_ble_eq_true rfl) (fun p e s m args below meth c A ls hx hb hr hml hown hts hlocks hK hP hD hA hl hE => ?_)
  have hS : va_S A s.heap s.heap [] := va_S.rf
  have hown : s.vm.findClass RX3 = some m.cls := hown
  have hl : lv_has ls 2 [(0, .ref (adL 0))] := hl
  have L12 : ∀ (n : Nat) (x1 : Int32) (L : VV) (H : Heap) (locs : List Loc) (ls : Array Slot), itr (fun q : Int32 × VV => f_X3_clear_s12 N q.2 q.1) n (x1, L) = some res → va_P G vwCl (wj [cX3 cy adL L]) H → va_D A (wj [cX3 cy adL L]) → va_S A s.heap H locs → lv_has ls 2 [(0, .ref (adL 0)), (1, .int x1)] → W p l e (rmX 0 0) s m args below meth c H locs 0 0 (MQ below (mQv G cy A (wj [cX3 cy adL res])) args s 0 0 A) (F0 m 12 ls []) := by
    intro n
    induction n with
    | zero => intro x1 L H locs ls h; exact (itr_zero h).elim
    | succ n ih1 =>
      intro x1 L H locs ls h hP hD hS hl
      obtain ⟨y1, h, hy1⟩ := itr_inv h
      have h : f_X3_clear_s12 N L x1 = some y1 := h
      delta f_X3_clear_s12 at h
      refine lv_iload_n hx hb dX3_clear_12 rfl (lv_at hl 1 rfl) ?_
      refine lv_iconst (v := 3) hx hb dX3_clear_13 (by decide) ?_
      refine lv_icmp_ge (tgt := 37) hx hb dX3_clear_14 (by decide) (fun c9 => ?_) (fun c9 => ?_)
      · replace h := (br h).1 c9
        replace h := itr_exit h hy1
        exact retV (fw := fun q => wj [cX3 cy adL q]) h hx hb hr hlocks hK hP hD hS dX3_clear_37
      · replace h := (br h).2 c9
        refine lv_aload_n hx hb dX3_clear_17 rfl (lv_at hl 0 rfl) ?_
        refine go_3_25 (ci := 0) hx hb hts hown hK hE hP rfl dX3_clear_18 ?_
        refine lv_iload_n hx hb dX3_clear_21 rfl (lv_at hl 1 rfl) ?_
        refine lv_iconst (v := 0) hx hb dX3_clear_22 (by decide) ?_
        replace h := gin_inv h
        obtain ⟨h9, h⟩ := h
        refine stWI (ci := 0) (k0 := 3) (j := x1.toNatClampNeg) (cs' := [cX3 cy adL (sr L 4 x1.toNatClampNeg 0)]) hx hb hK hP hD hS rfl cX3_a4 h9 rfl cX3_s4 rfl dX3_clear_23 (fun H locs hP hD hS => ?_)
        refine lv_aload_n hx hb dX3_clear_24 rfl (lv_at hl 0 rfl) ?_
        refine go_3_28 (ci := 0) hx hb hts hown hK hE hP rfl dX3_clear_25 ?_
        refine lv_iload_n hx hb dX3_clear_28 rfl (lv_at hl 1 rfl) ?_
        refine lv_iconst (v := 0) hx hb dX3_clear_29 (by decide) ?_
        replace h := gin_inv h
        obtain ⟨h9, h⟩ := h
        refine stWI (ci := 0) (k0 := 4) (j := x1.toNatClampNeg) (cs' := [cX3 cy adL (sr (sr L 4 x1.toNatClampNeg 0) 5 x1.toNatClampNeg 0)]) hx hb hK hP hD hS rfl cX3_a5 h9 rfl cX3_s5 rfl dX3_clear_30 (fun H locs hP hD hS => ?_)
        refine lv_iinc (v := x1 + 1) (lv' := [(1, .int (x1 + 1)), (0, .ref (adL 0))]) hx hb dX3_clear_31 hl (k := 1) rfl rfl (by decide) rfl (fun ls hl => ?_)
        refine lv_goto (tgt := 12) hx hb dX3_clear_34 (by decide) ?_
        replace h := itr_back h hy1
        exact ih1 (x1 + 1) (sr (sr L 4 x1.toNatClampNeg 0) 5 x1.toNatClampNeg 0) _ _ _ h hP hD hS (lv_sub hl [1, 0] rfl)
  delta f_X3_clear at h
  refine lv_aload_n hx hb dX3_clear_0 rfl (lv_at hl 0 rfl) ?_
  refine lv_iconst (v := 0) hx hb dX3_clear_1 (by decide) ?_
  refine po_3_18 (ci := 0) (cs' := [cX3 cy adL (si L 2 0)]) hx hb hts hown hK hE hP hD hS rfl rfl dX3_clear_2 (fun H locs hP hD hS => ?_)
  refine lv_aload_n hx hb dX3_clear_5 rfl (lv_at hl 0 rfl) ?_
  refine lv_iconst (v := 0) hx hb dX3_clear_6 (by decide) ?_
  refine po_3_22 (ci := 0) (cs' := [cX3 cy adL (si (si L 2 0) 3 0)]) hx hb hts hown hK hE hP hD hS rfl rfl dX3_clear_7 (fun H locs hP hD hS => ?_)
  refine lv_iconst (v := 0) hx hb dX3_clear_10 (by decide) ?_
  refine lv_istore_n (lv' := [(1, .int 0), (0, .ref (adL 0))]) hx hb dX3_clear_11 rfl hl (by decide) rfl (fun ls hl => ?_)
  exact L12  N 0 (si (si L 2 0) 3 0) _ _ _ h hP hD hS (lv_sub hl [1, 0] rfl)
theorem hds_X3_isTold : yX3_isTold.cls ≠ "java/lang/invoke/MethodHandle" ∧ yX3_isTold.cls ≠ "java/lang/invoke/VarHandle" ∧ (parseMethodDescriptor yX3_isTold.desc).map (fun d => d.parameters.length) = some 1 := ⟨by decide +kernel, by decide +kernel, by decide +kernel⟩
theorem hd_X3_isTold : yX3_isTold.cls = RX3 ∧ yX3_isTold.cls ≠ "java/lang/invoke/MethodHandle" ∧ yX3_isTold.cls ≠ "java/lang/invoke/VarHandle" ∧ (parseMethodDescriptor yX3_isTold.desc).map (fun d => d.parameters.length) = some 1 := ⟨rfl, hds_X3_isTold⟩
def f_X3_isTold (L : VV) (a1 : Int32) : Option (Int32) :=
  if a1 < 0 then some 0 else if (3 : Int32) ≤ a1 then some 0 else gin a1 3 (gin a1 3 (if L.2.1 5 a1.toNatClampNeg ≤ L.2.1 4 a1.toNatClampNeg then some 0 else some 1))
set_option maxHeartbeats 4000000 in
set_option maxRecDepth 100000 in
theorem k_X3_isTold (l : Launch) (G : va_G) (cy : Nat → ClassId) (ev : Nat → Nat) (adL : Nat → Nat) (L : VV) (a1 : Int32) (res : Int32) (h : f_X3_isTold L a1 = some res) : MetI l yX3_isTold cX3_isTold 2 (some .boolean) 0 0 G cy ev [.ref (adL 0), .int a1] (wj [cX3 cy adL L]) res (wj [cX3 cy adL L]) := by
  refine MetQ.start (by decide +kernel) (Nat.le_of_ble_eq_true rfl) (fun p e s m args below meth c A ls hx hb hr hml hown hts hlocks hK hP hD hA hl hE => ?_)
  have hS : va_S A s.heap s.heap [] := va_S.rf
  have hown : s.vm.findClass RX3 = some m.cls := hown
  have hl : lv_has ls 2 [(0, .ref (adL 0)), (1, .int a1)] := hl
  delta f_X3_isTold at h
  refine lv_iload_n hx hb dX3_isTold_0 rfl (lv_at hl 1 rfl) ?_
  refine lv_if_lt (tgt := 28) hx hb dX3_isTold_1 (by decide) (fun c9 => ?_) (fun c9 => ?_)
  · replace h := (br h).1 c9
    refine lv_iconst (v := 0) hx hb dX3_isTold_28 (by decide) ?_
    exact retZ (fr := fun q => q) (fw := fun _ => wj [cX3 cy adL L]) h hx hb hr narZ0 hlocks hK hP hD hS dX3_isTold_29
  · replace h := (br h).2 c9
    refine lv_iload_n hx hb dX3_isTold_4 rfl (lv_at hl 1 rfl) ?_
    refine lv_iconst (v := 3) hx hb dX3_isTold_5 (by decide) ?_
    refine lv_icmp_ge (tgt := 28) hx hb dX3_isTold_6 (by decide) (fun c9 => ?_) (fun c9 => ?_)
    · replace h := (br h).1 c9
      refine lv_iconst (v := 0) hx hb dX3_isTold_28 (by decide) ?_
      exact retZ (fr := fun q => q) (fw := fun _ => wj [cX3 cy adL L]) h hx hb hr narZ0 hlocks hK hP hD hS dX3_isTold_29
    · replace h := (br h).2 c9
      refine lv_aload_n hx hb dX3_isTold_9 rfl (lv_at hl 0 rfl) ?_
      refine go_3_28 (ci := 0) hx hb hts hown hK hE hP rfl dX3_isTold_10 ?_
      refine lv_iload_n hx hb dX3_isTold_13 rfl (lv_at hl 1 rfl) ?_
      replace h := gin_inv h
      obtain ⟨h9, h⟩ := h
      refine ldWI (ci := 0) (k0 := 4) (g := L.2.1 5) (j := a1.toNatClampNeg) hx hb hK hP rfl cX3_a5 rfl h9 rfl dX3_isTold_14 ?_
      refine lv_aload_n hx hb dX3_isTold_15 rfl (lv_at hl 0 rfl) ?_
      refine go_3_25 (ci := 0) hx hb hts hown hK hE hP rfl dX3_isTold_16 ?_
      refine lv_iload_n hx hb dX3_isTold_19 rfl (lv_at hl 1 rfl) ?_
      replace h := gin_inv h
      obtain ⟨h9, h⟩ := h
      refine ldWI (ci := 0) (k0 := 3) (g := L.2.1 4) (j := a1.toNatClampNeg) hx hb hK hP rfl cX3_a4 rfl h9 rfl dX3_isTold_20 ?_
      refine lv_icmp_le (tgt := 28) hx hb dX3_isTold_21 (by decide) (fun c9 => ?_) (fun c9 => ?_)
      · replace h := (br h).1 c9
        refine lv_iconst (v := 0) hx hb dX3_isTold_28 (by decide) ?_
        exact retZ (fr := fun q => q) (fw := fun _ => wj [cX3 cy adL L]) h hx hb hr narZ0 hlocks hK hP hD hS dX3_isTold_29
      · replace h := (br h).2 c9
        refine lv_iconst (v := 1) hx hb dX3_isTold_24 (by decide) ?_
        refine lv_goto (tgt := 29) hx hb dX3_isTold_25 (by decide) ?_
        exact retZ (fr := fun q => q) (fw := fun _ => wj [cX3 cy adL L]) h hx hb hr narZ1 hlocks hK hP hD hS dX3_isTold_29
theorem hds_X3_tell : yX3_tell.cls ≠ "java/lang/invoke/MethodHandle" ∧ yX3_tell.cls ≠ "java/lang/invoke/VarHandle" ∧ (parseMethodDescriptor yX3_tell.desc).map (fun d => d.parameters.length) = some 2 := ⟨by decide +kernel, by decide +kernel, by decide +kernel⟩
theorem hd_X3_tell : yX3_tell.cls = RX3 ∧ yX3_tell.cls ≠ "java/lang/invoke/MethodHandle" ∧ yX3_tell.cls ≠ "java/lang/invoke/VarHandle" ∧ (parseMethodDescriptor yX3_tell.desc).map (fun d => d.parameters.length) = some 2 := ⟨rfl, hds_X3_tell⟩
def f_X3_tell (L : VV) (a1 : Int32) (a2 : Int32) : Option (VV) :=
  if a1 < 0 then some L else if (3 : Int32) ≤ a1 then some L else gin a1 3 (gin a1 3 (some (sr (sr L 4 a1.toNatClampNeg a2) 5 a1.toNatClampNeg (L.1 2))))
set_option maxHeartbeats 4000000 in
set_option maxRecDepth 100000 in
theorem k_X3_tell (l : Launch) (G : va_G) (cy : Nat → ClassId) (ev : Nat → Nat) (adL : Nat → Nat) (L : VV) (a1 : Int32) (a2 : Int32) (res : VV) (h : f_X3_tell L a1 a2 = some res) : MetV l yX3_tell cX3_tell 3 none 0 0 G cy ev [.ref (adL 0), .int a1, .int a2] (wj [cX3 cy adL L]) (wj [cX3 cy adL res]) := by
  refine MetQ.start (by decide +kernel) (Nat.le_of_ble_eq_true rfl) (fun p e s m args below meth c A ls hx hb hr hml hown hts hlocks hK hP hD hA hl hE => ?_)
  have hS : va_S A s.heap s.heap [] := va_S.rf
  have hown : s.vm.findClass RX3 = some m.cls := hown
  have hl : lv_has ls 3 [(0, .ref (adL 0)), (1, .int a1), (2, .int a2)] := hl
  delta f_X3_tell at h
  refine lv_iload_n hx hb dX3_tell_0 rfl (lv_at hl 1 rfl) ?_
  refine lv_if_lt (tgt := 26) hx hb dX3_tell_1 (by decide) (fun c9 => ?_) (fun c9 => ?_)
  · replace h := (br h).1 c9
    exact retV (fw := fun q => wj [cX3 cy adL q]) h hx hb hr hlocks hK hP hD hS dX3_tell_26
  · replace h := (br h).2 c9
    refine lv_iload_n hx hb dX3_tell_4 rfl (lv_at hl 1 rfl) ?_
    refine lv_iconst (v := 3) hx hb dX3_tell_5 (by decide) ?_
    refine lv_icmp_ge (tgt := 26) hx hb dX3_tell_6 (by decide) (fun c9 => ?_) (fun c9 => ?_)
    · replace h := (br h).1 c9
      exact retV (fw := fun q => wj [cX3 cy adL q]) h hx hb hr hlocks hK hP hD hS dX3_tell_26
    · replace h := (br h).2 c9
      refine lv_aload_n hx hb dX3_tell_9 rfl (lv_at hl 0 rfl) ?_
      refine go_3_25 (ci := 0) hx hb hts hown hK hE hP rfl dX3_tell_10 ?_
      refine lv_iload_n hx hb dX3_tell_13 rfl (lv_at hl 1 rfl) ?_
      refine lv_iload_n hx hb dX3_tell_14 rfl (lv_at hl 2 rfl) ?_
      replace h := gin_inv h
      obtain ⟨h9, h⟩ := h
      refine stWI (ci := 0) (k0 := 3) (j := a1.toNatClampNeg) (cs' := [cX3 cy adL (sr L 4 a1.toNatClampNeg a2)]) hx hb hK hP hD hS rfl cX3_a4 h9 rfl cX3_s4 rfl dX3_tell_15 (fun H locs hP hD hS => ?_)
      refine lv_aload_n hx hb dX3_tell_16 rfl (lv_at hl 0 rfl) ?_
      refine go_3_28 (ci := 0) hx hb hts hown hK hE hP rfl dX3_tell_17 ?_
      refine lv_iload_n hx hb dX3_tell_20 rfl (lv_at hl 1 rfl) ?_
      refine lv_aload_n hx hb dX3_tell_21 rfl (lv_at hl 0 rfl) ?_
      refine go_3_18 (ci := 0) (x := L.1 2) hx hb hts hown hK hE hP rfl rfl dX3_tell_22 ?_
      replace h := gin_inv h
      obtain ⟨h9, h⟩ := h
      refine stWI (ci := 0) (k0 := 4) (j := a1.toNatClampNeg) (cs' := [cX3 cy adL (sr (sr L 4 a1.toNatClampNeg a2) 5 a1.toNatClampNeg (L.1 2))]) hx hb hK hP hD hS rfl cX3_a5 h9 rfl cX3_s5 rfl dX3_tell_25 (fun H locs hP hD hS => ?_)
      exact retV (fw := fun q => wj [cX3 cy adL q]) h hx hb hr hlocks hK hP hD hS dX3_tell_26
theorem hds_X3_put : yX3_put.cls ≠ "java/lang/invoke/MethodHandle" ∧ yX3_put.cls ≠ "java/lang/invoke/VarHandle" ∧ (parseMethodDescriptor yX3_put.desc).map (fun d => d.parameters.length) = some 2 := ⟨by decide +kernel, by decide +kernel, by decide +kernel⟩
theorem hd_X3_put : yX3_put.cls = RX3 ∧ yX3_put.cls ≠ "java/lang/invoke/MethodHandle" ∧ yX3_put.cls ≠ "java/lang/invoke/VarHandle" ∧ (parseMethodDescriptor yX3_put.desc).map (fun d => d.parameters.length) = some 2 := ⟨rfl, hds_X3_put⟩
def f_X3_put (L : VV) (a1 : Int32) (a2 : Int32) : Option (VV) :=
  if (64 : Int32) ≤ L.1 2 then some L else gin (L.1 2) 64 (gin (L.1 2) 64 (some (si (sr (sr L 0 ((L.1 2).toNatClampNeg) a1) 1 ((L.1 2).toNatClampNeg) a2) 2 ((L.1 2) + 1))))
set_option maxHeartbeats 4000000 in
set_option maxRecDepth 100000 in
theorem k_X3_put (l : Launch) (G : va_G) (cy : Nat → ClassId) (ev : Nat → Nat) (adL : Nat → Nat) (L : VV) (a1 : Int32) (a2 : Int32) (res : VV) (h : f_X3_put L a1 a2 = some res) : MetV l yX3_put cX3_put 3 none 0 0 G cy ev [.ref (adL 0), .int a1, .int a2] (wj [cX3 cy adL L]) (wj [cX3 cy adL res]) := by
  refine MetQ.start (by decide +kernel) (Nat.le_of_ble_eq_true rfl) (fun p e s m args below meth c A ls hx hb hr hml hown hts hlocks hK hP hD hA hl hE => ?_)
  have hS : va_S A s.heap s.heap [] := va_S.rf
  have hown : s.vm.findClass RX3 = some m.cls := hown
  have hl : lv_has ls 3 [(0, .ref (adL 0)), (1, .int a1), (2, .int a2)] := hl
  delta f_X3_put at h
  refine lv_aload_n hx hb dX3_put_0 rfl (lv_at hl 0 rfl) ?_
  refine go_3_18 (ci := 0) (x := L.1 2) hx hb hts hown hK hE hP rfl rfl dX3_put_1 ?_
  refine lv_bipush (v := 64) hx hb dX3_put_4 (by decide) ?_
  refine lv_icmp_ge (tgt := 39) hx hb dX3_put_6 (by decide) (fun c9 => ?_) (fun c9 => ?_)
  · replace h := (br h).1 c9
    exact retV (fw := fun q => wj [cX3 cy adL q]) h hx hb hr hlocks hK hP hD hS dX3_put_39
  · replace h := (br h).2 c9
    refine lv_aload_n hx hb dX3_put_9 rfl (lv_at hl 0 rfl) ?_
    refine go_3_9 (ci := 0) hx hb hts hown hK hE hP rfl dX3_put_10 ?_
    refine lv_aload_n hx hb dX3_put_13 rfl (lv_at hl 0 rfl) ?_
    refine go_3_18 (ci := 0) (x := L.1 2) hx hb hts hown hK hE hP rfl rfl dX3_put_14 ?_
    refine lv_iload_n hx hb dX3_put_17 rfl (lv_at hl 1 rfl) ?_
    replace h := gin_inv h
    obtain ⟨h9, h⟩ := h
    refine stWI (ci := 0) (k0 := 1) (j := (L.1 2).toNatClampNeg) (cs' := [cX3 cy adL (sr L 0 ((L.1 2).toNatClampNeg) a1)]) hx hb hK hP hD hS rfl cX3_a0 h9 rfl cX3_s0 rfl dX3_put_18 (fun H locs hP hD hS => ?_)
    refine lv_aload_n hx hb dX3_put_19 rfl (lv_at hl 0 rfl) ?_
    refine go_3_15 (ci := 0) hx hb hts hown hK hE hP rfl dX3_put_20 ?_
    refine lv_aload_n hx hb dX3_put_23 rfl (lv_at hl 0 rfl) ?_
    refine go_3_18 (ci := 0) (x := L.1 2) hx hb hts hown hK hE hP rfl rfl dX3_put_24 ?_
    refine lv_iload_n hx hb dX3_put_27 rfl (lv_at hl 2 rfl) ?_
    replace h := gin_inv h
    obtain ⟨h9, h⟩ := h
    refine stWI (ci := 0) (k0 := 2) (j := (L.1 2).toNatClampNeg) (cs' := [cX3 cy adL (sr (sr L 0 ((L.1 2).toNatClampNeg) a1) 1 ((L.1 2).toNatClampNeg) a2)]) hx hb hK hP hD hS rfl cX3_a1 h9 rfl cX3_s1 rfl dX3_put_28 (fun H locs hP hD hS => ?_)
    refine lv_aload_n hx hb dX3_put_29 rfl (lv_at hl 0 rfl) ?_
    refine lv_dup hx hb dX3_put_30 rfl ?_
    refine go_3_18 (ci := 0) (x := L.1 2) hx hb hts hown hK hE hP rfl rfl dX3_put_31 ?_
    refine lv_iconst (v := 1) hx hb dX3_put_34 (by decide) ?_
    refine lv_iadd hx hb dX3_put_35 ?_
    refine po_3_18 (ci := 0) (cs' := [cX3 cy adL (si (sr (sr L 0 ((L.1 2).toNatClampNeg) a1) 1 ((L.1 2).toNatClampNeg) a2) 2 ((L.1 2) + 1))]) hx hb hts hown hK hE hP hD hS rfl rfl dX3_put_36 (fun H locs hP hD hS => ?_)
    exact retV (fw := fun q => wj [cX3 cy adL q]) h hx hb hr hlocks hK hP hD hS dX3_put_39
theorem hds_X3_isLeaf : yX3_isLeaf.cls ≠ "java/lang/invoke/MethodHandle" ∧ yX3_isLeaf.cls ≠ "java/lang/invoke/VarHandle" ∧ (parseMethodDescriptor yX3_isLeaf.desc).map (fun d => d.parameters.length) = some 1 := ⟨by decide +kernel, by decide +kernel, by decide +kernel⟩
theorem hd_X3_isLeaf : yX3_isLeaf.cls = RX3 ∧ yX3_isLeaf.cls ≠ "java/lang/invoke/MethodHandle" ∧ yX3_isLeaf.cls ≠ "java/lang/invoke/VarHandle" ∧ (parseMethodDescriptor yX3_isLeaf.desc).map (fun d => d.parameters.length) = some 1 := ⟨rfl, hds_X3_isLeaf⟩
def f_X3_isLeaf_b11  : Option (Int32) :=
  some 1
def f_X3_isLeaf (a1 : Int32) : Option (Int32) :=
  if a1 = 2 then f_X3_isLeaf_b11 else if a1 < 47 then some 0 else f_X3_isLeaf_b11
set_option maxHeartbeats 4000000 in
set_option maxRecDepth 100000 in
theorem k_X3_isLeaf (l : Launch) (G : va_G) (cy : Nat → ClassId) (ev : Nat → Nat) (w : va_W)  (a1 : Int32) (res : Int32) (h : f_X3_isLeaf a1 = some res) : MetI l yX3_isLeaf cX3_isLeaf 1 (some .boolean) 0 0 G cy ev [.int a1] (w) res (w) := by
  refine MetQ.start (by decide +kernel) (Nat.le_of_ble_eq_true rfl) (fun p e s m args below meth c A ls hx hb hr hml hown hts hlocks hK hP hD hA hl hE => ?_)
  have hS : va_S A s.heap s.heap [] := va_S.rf
  have hown : s.vm.findClass RX3 = some m.cls := hown
  have hl : lv_has ls 1 [(0, .int a1)] := hl
  have B11 : ∀ (H : Heap) (locs : List Loc) (ls : Array Slot), f_X3_isLeaf_b11 = some res → va_P G vwCl (w) H → va_D A (w) → va_S A s.heap H locs → lv_has ls 1 [] → W p l e (rmX 0 0) s m args below meth c H locs 0 0 (MQ below (mQi (res) G cy A (w)) args s 0 0 A) (F0 m 11 ls []) := by
    intro H locs ls h hP hD hS hl
    delta f_X3_isLeaf_b11 at h
    refine lv_iconst (v := 1) hx hb dX3_isLeaf_11 (by decide) ?_
    refine lv_goto (tgt := 16) hx hb dX3_isLeaf_12 (by decide) ?_
    exact retZ (fr := fun q => q) (fw := fun _ => w) h hx hb hr narZ1 hlocks hK hP hD hS dX3_isLeaf_16
  delta f_X3_isLeaf at h
  refine lv_iload_n hx hb dX3_isLeaf_0 rfl (lv_at hl 0 rfl) ?_
  refine lv_iconst (v := 2) hx hb dX3_isLeaf_1 (by decide) ?_
  refine lv_icmp_eq (tgt := 11) hx hb dX3_isLeaf_2 (by decide) (fun c9 => ?_) (fun c9 => ?_)
  · replace h := (br h).1 c9
    exact B11 _ _ _ h hP hD hS (lv_sub hl [] rfl)
  · replace h := (br h).2 c9
    refine lv_iload_n hx hb dX3_isLeaf_5 rfl (lv_at hl 0 rfl) ?_
    refine lv_bipush (v := 47) hx hb dX3_isLeaf_6 (by decide) ?_
    refine lv_icmp_lt (tgt := 15) hx hb dX3_isLeaf_8 (by decide) (fun c9 => ?_) (fun c9 => ?_)
    · replace h := (br h).1 c9
      refine lv_iconst (v := 0) hx hb dX3_isLeaf_15 (by decide) ?_
      exact retZ (fr := fun q => q) (fw := fun _ => w) h hx hb hr narZ0 hlocks hK hP hD hS dX3_isLeaf_16
    · replace h := (br h).2 c9
      exact B11 _ _ _ h hP hD hS (lv_sub hl [] rfl)
theorem hds_X3_leaf : yX3_leaf.cls ≠ "java/lang/invoke/MethodHandle" ∧ yX3_leaf.cls ≠ "java/lang/invoke/VarHandle" ∧ (parseMethodDescriptor yX3_leaf.desc).map (fun d => d.parameters.length) = some 2 := ⟨by decide +kernel, by decide +kernel, by decide +kernel⟩
theorem hd_X3_leaf : yX3_leaf.cls = RX3 ∧ yX3_leaf.cls ≠ "java/lang/invoke/MethodHandle" ∧ yX3_leaf.cls ≠ "java/lang/invoke/VarHandle" ∧ (parseMethodDescriptor yX3_leaf.desc).map (fun d => d.parameters.length) = some 2 := ⟨rfl, hds_X3_leaf⟩
def f_X3_leaf_b25 (L : VV) (x2 : Int32) : Option (Int64) :=
  some x2.toInt64
def f_X3_leaf (L : VV) (a1 : Int32) (a2 : Int32) : Option (Int64) :=
  if a1 - 47 < 0 then f_X3_leaf_b25 L a2 else if (7 : Int32) ≤ a1 - 47 then f_X3_leaf_b25 L a2 else gin (a1 - 47) 7 (some ((L.2.1 6 ((a1 - 47).toNatClampNeg)).toInt64))
set_option maxHeartbeats 4000000 in
set_option maxRecDepth 100000 in
theorem k_X3_leaf (l : Launch) (G : va_G) (cy : Nat → ClassId) (ev : Nat → Nat) (adL : Nat → Nat) (L : VV) (a1 : Int32) (a2 : Int32) (res : Int64) (h : f_X3_leaf L a1 a2 = some res) : MetL l yX3_leaf cX3_leaf 4 (some .long) 0 0 G cy ev [.ref (adL 0), .int a1, .int a2] (wj [cX3 cy adL L]) res (wj [cX3 cy adL L]) := by
  refine MetQ.start (by decide +kernel) (Nat.le_of_ble_eq_true rfl) (fun p e s m args below meth c A ls hx hb hr hml hown hts hlocks hK hP hD hA hl hE => ?_)
  have hS : va_S A s.heap s.heap [] := va_S.rf
  have hown : s.vm.findClass RX3 = some m.cls := hown
  have hl : lv_has ls 4 [(0, .ref (adL 0)), (1, .int a1), (2, .int a2)] := hl
  have B25 : ∀ (x2 : Int32) (H : Heap) (locs : List Loc) (ls : Array Slot), f_X3_leaf_b25 L x2 = some res → va_P G vwCl (wj [cX3 cy adL L]) H → va_D A (wj [cX3 cy adL L]) → va_S A s.heap H locs → lv_has ls 4 [(2, .int x2)] → W p l e (rmX 0 0) s m args below meth c H locs 0 0 (MQ below (mQl (res) G cy A (wj [cX3 cy adL L])) args s 0 0 A) (F0 m 25 ls []) := by
    intro x2 H locs ls h hP hD hS hl
    delta f_X3_leaf_b25 at h
    refine lv_iload_n hx hb dX3_leaf_25 rfl (lv_at hl 0 rfl) ?_
    refine lv_i2l (v := x2.toInt64) hx hb dX3_leaf_26 rfl ?_
    exact retL (fr := fun q => q) (fw := fun _ => wj [cX3 cy adL L]) h hx hb hr hlocks hK hP hD hS dX3_leaf_27
  delta f_X3_leaf at h
  refine lv_iload_n hx hb dX3_leaf_0 rfl (lv_at hl 1 rfl) ?_
  refine lv_bipush (v := 47) hx hb dX3_leaf_1 (by decide) ?_
  refine lv_isub hx hb dX3_leaf_3 ?_
  refine lv_istore_n (lv' := [(3, .int (a1 - 47)), (0, .ref (adL 0)), (1, .int a1), (2, .int a2)]) hx hb dX3_leaf_4 rfl hl (by decide) rfl (fun ls hl => ?_)
  refine lv_iload_n hx hb dX3_leaf_5 rfl (lv_at hl 0 rfl) ?_
  refine lv_if_lt (tgt := 25) hx hb dX3_leaf_6 (by decide) (fun c9 => ?_) (fun c9 => ?_)
  · replace h := (br h).1 c9
    exact B25 a2 _ _ _ h hP hD hS (lv_sub hl [3] rfl)
  · replace h := (br h).2 c9
    refine lv_iload_n hx hb dX3_leaf_9 rfl (lv_at hl 0 rfl) ?_
    refine lv_bipush (v := 7) hx hb dX3_leaf_10 (by decide) ?_
    refine lv_icmp_ge (tgt := 25) hx hb dX3_leaf_12 (by decide) (fun c9 => ?_) (fun c9 => ?_)
    · replace h := (br h).1 c9
      exact B25 a2 _ _ _ h hP hD hS (lv_sub hl [3] rfl)
    · replace h := (br h).2 c9
      refine lv_aload_n hx hb dX3_leaf_15 rfl (lv_at hl 1 rfl) ?_
      refine go_3_31 (ci := 0) hx hb hts hown hK hE hP rfl dX3_leaf_16 ?_
      refine lv_iload_n hx hb dX3_leaf_19 rfl (lv_at hl 0 rfl) ?_
      replace h := gin_inv h
      obtain ⟨h9, h⟩ := h
      refine ldWI (ci := 0) (k0 := 5) (g := L.2.1 6) (j := (a1 - 47).toNatClampNeg) hx hb hK hP rfl cX3_a6 rfl h9 rfl dX3_leaf_20 ?_
      refine lv_i2l (v := (L.2.1 6 ((a1 - 47).toNatClampNeg)).toInt64) hx hb dX3_leaf_21 rfl ?_
      refine lv_goto (tgt := 27) hx hb dX3_leaf_22 (by decide) ?_
      exact retL (fr := fun q => q) (fw := fun _ => wj [cX3 cy adL L]) h hx hb hr hlocks hK hP hD hS dX3_leaf_27
theorem hds_X3_join : yX3_join.cls ≠ "java/lang/invoke/MethodHandle" ∧ yX3_join.cls ≠ "java/lang/invoke/VarHandle" ∧ (parseMethodDescriptor yX3_join.desc).map (fun d => d.parameters.length) = some 3 := ⟨by decide +kernel, by decide +kernel, by decide +kernel⟩
theorem hd_X3_join : yX3_join.cls = RX3 ∧ yX3_join.cls ≠ "java/lang/invoke/MethodHandle" ∧ yX3_join.cls ≠ "java/lang/invoke/VarHandle" ∧ (parseMethodDescriptor yX3_join.desc).map (fun d => d.parameters.length) = some 3 := ⟨rfl, hds_X3_join⟩
def f_X3_join_b361  : Option (Int64) :=
  some ((-9223372036854775808))
def f_X3_join_b355  : Option (Int64) :=
  some 1
def f_X3_join_b233 (x1 : Int64) (x3 : Int64) : Option (Int64) :=
  some (x1 * x3)
def f_X3_join_b206 (x1 : Int64) (x3 : Int64) (x5 : Int64) (z0 : Int64) : Option (Int64) :=
  if x5 = 0 then f_X3_join_b233 x1 x3 else gnzL x5 (if z0 ≤ 1000000000000 / x5 then f_X3_join_b233 x1 x3 else some ((-9223372036854775808)))
def f_X3_join_b192 (x1 : Int64) (x3 : Int64) (z0 : Int64) : Option (Int64) :=
  if 0 ≤ x3 then f_X3_join_b206 x1 x3 z0 x3 else f_X3_join_b206 x1 x3 z0 (-x3)
def f_X3_join (a1 : Int32) (a2 : Int64) (a3 : Int64) : Option (Int64) :=
  if a1 = 7 then some (a2 + a3) else if a1 = 8 then some (a2 - a3) else if a1 = 9 then if 0 ≤ a2 then f_X3_join_b192 a2 a3 a2 else f_X3_join_b192 a2 a3 (-a2) else if a1 = 10 then if a3 = 0 then some ((-9223372036854775808)) else gnzL a3 (some (a2 / a3)) else if a1 = 11 then if a3 ≤ a2 then some 0 else some 1 else if a1 = 12 then if a3 < a2 then some 0 else some 1 else if a1 = 13 then if a2 = a3 then some 1 else some 0 else if a1 = 14 then if a2 = a3 then some 0 else some 1 else if a1 = 15 then if a2 < a3 then some 0 else some 1 else if a1 = 16 then if a2 ≤ a3 then some 0 else some 1 else if a1 = 44 then if a2 = 0 then if a3 = 0 then some 0 else f_X3_join_b355 else f_X3_join_b355 else if a1 = 45 then if a2 = 0 then some 0 else if a3 = 0 then some 0 else some 1 else f_X3_join_b361
set_option maxHeartbeats 4000000 in
set_option maxRecDepth 100000 in
theorem k_X3_join (l : Launch) (G : va_G) (cy : Nat → ClassId) (ev : Nat → Nat) (w : va_W)  (a1 : Int32) (a2 : Int64) (a3 : Int64) (res : Int64) (h : f_X3_join a1 a2 a3 = some res) : MetL l yX3_join cX3_join 9 (some .long) 0 0 G cy ev [.int a1, .long a2, .long a3] (w) res (w) := by
  refine MetQ.start (by decide +kernel) (Nat.le_of_ble_eq_true rfl) (fun p e s m args below meth c A ls hx hb hr hml hown hts hlocks hK hP hD hA hl hE => ?_)
  have hS : va_S A s.heap s.heap [] := va_S.rf
  have hown : s.vm.findClass RX3 = some m.cls := hown
  have hl : lv_has ls 9 [(0, .int a1), (1, .long a2), (3, .long a3)] := hl
  have B361 : ∀ (H : Heap) (locs : List Loc) (ls : Array Slot), f_X3_join_b361 = some res → va_P G vwCl (w) H → va_D A (w) → va_S A s.heap H locs → lv_has ls 9 [] → W p l e (rmX 0 0) s m args below meth c H locs 0 0 (MQ below (mQl (res) G cy A (w)) args s 0 0 A) (F0 m 361 ls []) := by
    intro H locs ls h hP hD hS hl
    delta f_X3_join_b361 at h
    refine lv_ldc2 (v := (-9223372036854775808)) hx hb hown (hts _ wm_29_15) dX3_join_361 ?_
    exact retL (fr := fun q => q) (fw := fun _ => w) h hx hb hr hlocks hK hP hD hS dX3_join_364
  have B355 : ∀ (H : Heap) (locs : List Loc) (ls : Array Slot), f_X3_join_b355 = some res → va_P G vwCl (w) H → va_D A (w) → va_S A s.heap H locs → lv_has ls 9 [] → W p l e (rmX 0 0) s m args below meth c H locs 0 0 (MQ below (mQl (res) G cy A (w)) args s 0 0 A) (F0 m 355 ls []) := by
    intro H locs ls h hP hD hS hl
    delta f_X3_join_b355 at h
    refine lv_lconst (v := 1) hx hb dX3_join_355 (by decide) ?_
    refine lv_goto (tgt := 360) hx hb dX3_join_356 (by decide) ?_
    exact retL (fr := fun q => q) (fw := fun _ => w) h hx hb hr hlocks hK hP hD hS dX3_join_360
  have B233 : ∀ (x1 : Int64) (x3 : Int64) (H : Heap) (locs : List Loc) (ls : Array Slot), f_X3_join_b233 x1 x3 = some res → va_P G vwCl (w) H → va_D A (w) → va_S A s.heap H locs → lv_has ls 9 [(1, .long x1), (3, .long x3)] → W p l e (rmX 0 0) s m args below meth c H locs 0 0 (MQ below (mQl (res) G cy A (w)) args s 0 0 A) (F0 m 233 ls []) := by
    intro x1 x3 H locs ls h hP hD hS hl
    delta f_X3_join_b233 at h
    refine lv_lload_n hx hb dX3_join_233 rfl (lv_at hl 0 rfl) ?_
    refine lv_lload_n hx hb dX3_join_234 rfl (lv_at hl 1 rfl) ?_
    refine lv_lmul hx hb dX3_join_235 ?_
    exact retL (fr := fun q => q) (fw := fun _ => w) h hx hb hr hlocks hK hP hD hS dX3_join_236
  have B206 : ∀ (x1 : Int64) (x3 : Int64) (x5 : Int64) (z0 : Int64) (H : Heap) (locs : List Loc) (ls : Array Slot), f_X3_join_b206 x1 x3 x5 z0 = some res → va_P G vwCl (w) H → va_D A (w) → va_S A s.heap H locs → lv_has ls 9 [(1, .long x1), (3, .long x3), (5, .long x5)] → W p l e (rmX 0 0) s m args below meth c H locs 0 0 (MQ below (mQl (res) G cy A (w)) args s 0 0 A) (F0 m 206 ls [.long z0]) := by
    intro x1 x3 x5 z0 H locs ls h hP hD hS hl
    delta f_X3_join_b206 at h
    refine lv_lstore (lv' := [(7, .long z0), (1, .long x1), (3, .long x3), (5, .long x5)]) hx hb dX3_join_206 hl (by decide) rfl (fun ls hl => ?_)
    refine lv_lload hx hb dX3_join_208 (lv_at hl 3 rfl) ?_
    refine lv_lconst (v := 0) hx hb dX3_join_210 (by decide) ?_
    refine lcmp_eq (tgt := 233) hx hb dX3_join_211 dX3_join_212 (by decide) (fun c9 => ?_) (fun c9 => ?_)
    · replace h := (br h).1 c9
      exact B233 x1 x3 _ _ _ h hP hD hS (lv_sub hl [1, 2] rfl)
    · replace h := (br h).2 c9
      refine lv_lload hx hb dX3_join_215 (lv_at hl 0 rfl) ?_
      refine lv_ldc2 (v := (1000000000000)) hx hb hown (hts _ wm_29_17) dX3_join_217 ?_
      refine lv_lload hx hb dX3_join_220 (lv_at hl 3 rfl) ?_
      replace h := gnzL_inv h
      obtain ⟨h9, h⟩ := h
      refine lv_ldiv hx hb dX3_join_222 h9 ?_
      refine lcmp_le (tgt := 233) hx hb dX3_join_223 dX3_join_224 (by decide) (fun c9 => ?_) (fun c9 => ?_)
      · replace h := (br h).1 c9
        exact B233 x1 x3 _ _ _ h hP hD hS (lv_sub hl [1, 2] rfl)
      · replace h := (br h).2 c9
        refine lv_ldc2 (v := (-9223372036854775808)) hx hb hown (hts _ wm_29_15) dX3_join_227 ?_
        refine lv_goto (tgt := 236) hx hb dX3_join_230 (by decide) ?_
        exact retL (fr := fun q => q) (fw := fun _ => w) h hx hb hr hlocks hK hP hD hS dX3_join_236
  have B192 : ∀ (x1 : Int64) (x3 : Int64) (z0 : Int64) (H : Heap) (locs : List Loc) (ls : Array Slot), f_X3_join_b192 x1 x3 z0 = some res → va_P G vwCl (w) H → va_D A (w) → va_S A s.heap H locs → lv_has ls 9 [(1, .long x1), (3, .long x3)] → W p l e (rmX 0 0) s m args below meth c H locs 0 0 (MQ below (mQl (res) G cy A (w)) args s 0 0 A) (F0 m 192 ls [.long z0]) := by
    intro x1 x3 z0 H locs ls h hP hD hS hl
    delta f_X3_join_b192 at h
    refine lv_lstore (lv' := [(5, .long z0), (1, .long x1), (3, .long x3)]) hx hb dX3_join_192 hl (by decide) rfl (fun ls hl => ?_)
    refine lv_lload_n hx hb dX3_join_194 rfl (lv_at hl 2 rfl) ?_
    refine lv_lconst (v := 0) hx hb dX3_join_195 (by decide) ?_
    refine lcmp_ge (tgt := 205) hx hb dX3_join_196 dX3_join_197 (by decide) (fun c9 => ?_) (fun c9 => ?_)
    · replace h := (br h).1 c9
      refine lv_lload_n hx hb dX3_join_205 rfl (lv_at hl 2 rfl) ?_
      exact B206 x1 x3 z0 x3 _ _ _ h hP hD hS (lv_sub hl [1, 2, 0] rfl)
    · replace h := (br h).2 c9
      refine lv_lload_n hx hb dX3_join_200 rfl (lv_at hl 2 rfl) ?_
      refine lv_lneg hx hb dX3_join_201 ?_
      refine lv_goto (tgt := 206) hx hb dX3_join_202 (by decide) ?_
      exact B206 x1 x3 z0 (-x3) _ _ _ h hP hD hS (lv_sub hl [1, 2, 0] rfl)
  delta f_X3_join at h
  refine lv_iload_n hx hb dX3_join_0 rfl (lv_at hl 0 rfl) ?_
  refine lv_topi (fun w1 ew1 => ?_)
  by_cases nw1_0 : a1 = 7
  · replace h := (br h).1 nw1_0
    rw [ew1, nw1_0]
    refine lv_tableIn (off := 171) (tgt := 172) hx hb dX3_join_1 (by decide) (by decide) rfl (by decide) ?_
    refine lv_lload_n hx hb dX3_join_172 rfl (lv_at hl 1 rfl) ?_
    refine lv_lload_n hx hb dX3_join_173 rfl (lv_at hl 2 rfl) ?_
    refine lv_ladd hx hb dX3_join_174 ?_
    exact retL (fr := fun q => q) (fw := fun _ => w) h hx hb hr hlocks hK hP hD hS dX3_join_175
  · replace h := (br h).2 nw1_0
    by_cases nw1_1 : a1 = 8
    · replace h := (br h).1 nw1_1
      rw [ew1, nw1_1]
      refine lv_tableIn (off := 175) (tgt := 176) hx hb dX3_join_1 (by decide) (by decide) rfl (by decide) ?_
      refine lv_lload_n hx hb dX3_join_176 rfl (lv_at hl 1 rfl) ?_
      refine lv_lload_n hx hb dX3_join_177 rfl (lv_at hl 2 rfl) ?_
      refine lv_lsub hx hb dX3_join_178 ?_
      exact retL (fr := fun q => q) (fw := fun _ => w) h hx hb hr hlocks hK hP hD hS dX3_join_179
    · replace h := (br h).2 nw1_1
      by_cases nw1_2 : a1 = 9
      · replace h := (br h).1 nw1_2
        rw [ew1, nw1_2]
        refine lv_tableIn (off := 179) (tgt := 180) hx hb dX3_join_1 (by decide) (by decide) rfl (by decide) ?_
        refine lv_lload_n hx hb dX3_join_180 rfl (lv_at hl 1 rfl) ?_
        refine lv_lconst (v := 0) hx hb dX3_join_181 (by decide) ?_
        refine lcmp_ge (tgt := 191) hx hb dX3_join_182 dX3_join_183 (by decide) (fun c9 => ?_) (fun c9 => ?_)
        · replace h := (br h).1 c9
          refine lv_lload_n hx hb dX3_join_191 rfl (lv_at hl 1 rfl) ?_
          exact B192 a2 a3 a2 _ _ _ h hP hD hS (lv_sub hl [1, 2] rfl)
        · replace h := (br h).2 c9
          refine lv_lload_n hx hb dX3_join_186 rfl (lv_at hl 1 rfl) ?_
          refine lv_lneg hx hb dX3_join_187 ?_
          refine lv_goto (tgt := 192) hx hb dX3_join_188 (by decide) ?_
          exact B192 a2 a3 (-a2) _ _ _ h hP hD hS (lv_sub hl [1, 2] rfl)
      · replace h := (br h).2 nw1_2
        by_cases nw1_3 : a1 = 10
        · replace h := (br h).1 nw1_3
          rw [ew1, nw1_3]
          refine lv_tableIn (off := 236) (tgt := 237) hx hb dX3_join_1 (by decide) (by decide) rfl (by decide) ?_
          refine lv_lload_n hx hb dX3_join_237 rfl (lv_at hl 2 rfl) ?_
          refine lv_lconst (v := 0) hx hb dX3_join_238 (by decide) ?_
          refine lcmp_ne (tgt := 249) hx hb dX3_join_239 dX3_join_240 (by decide) (fun c9 => ?_) (fun c9 => ?_)
          · replace h := (br h).2 c9
            refine lv_lload_n hx hb dX3_join_249 rfl (lv_at hl 1 rfl) ?_
            refine lv_lload_n hx hb dX3_join_250 rfl (lv_at hl 2 rfl) ?_
            replace h := gnzL_inv h
            obtain ⟨h9, h⟩ := h
            refine lv_ldiv hx hb dX3_join_251 h9 ?_
            exact retL (fr := fun q => q) (fw := fun _ => w) h hx hb hr hlocks hK hP hD hS dX3_join_252
          · replace h := (br h).1 c9
            refine lv_ldc2 (v := (-9223372036854775808)) hx hb hown (hts _ wm_29_15) dX3_join_243 ?_
            refine lv_goto (tgt := 252) hx hb dX3_join_246 (by decide) ?_
            exact retL (fr := fun q => q) (fw := fun _ => w) h hx hb hr hlocks hK hP hD hS dX3_join_252
        · replace h := (br h).2 nw1_3
          by_cases nw1_4 : a1 = 11
          · replace h := (br h).1 nw1_4
            rw [ew1, nw1_4]
            refine lv_tableIn (off := 252) (tgt := 253) hx hb dX3_join_1 (by decide) (by decide) rfl (by decide) ?_
            refine lv_lload_n hx hb dX3_join_253 rfl (lv_at hl 1 rfl) ?_
            refine lv_lload_n hx hb dX3_join_254 rfl (lv_at hl 2 rfl) ?_
            refine lcmp_ge (tgt := 263) hx hb dX3_join_255 dX3_join_256 (by decide) (fun c9 => ?_) (fun c9 => ?_)
            · replace h := (br h).1 c9
              refine lv_lconst (v := 0) hx hb dX3_join_263 (by decide) ?_
              exact retL (fr := fun q => q) (fw := fun _ => w) h hx hb hr hlocks hK hP hD hS dX3_join_264
            · replace h := (br h).2 c9
              refine lv_lconst (v := 1) hx hb dX3_join_259 (by decide) ?_
              refine lv_goto (tgt := 264) hx hb dX3_join_260 (by decide) ?_
              exact retL (fr := fun q => q) (fw := fun _ => w) h hx hb hr hlocks hK hP hD hS dX3_join_264
          · replace h := (br h).2 nw1_4
            by_cases nw1_5 : a1 = 12
            · replace h := (br h).1 nw1_5
              rw [ew1, nw1_5]
              refine lv_tableIn (off := 264) (tgt := 265) hx hb dX3_join_1 (by decide) (by decide) rfl (by decide) ?_
              refine lv_lload_n hx hb dX3_join_265 rfl (lv_at hl 1 rfl) ?_
              refine lv_lload_n hx hb dX3_join_266 rfl (lv_at hl 2 rfl) ?_
              refine lcmp_gt (tgt := 275) hx hb dX3_join_267 dX3_join_268 (by decide) (fun c9 => ?_) (fun c9 => ?_)
              · replace h := (br h).1 c9
                refine lv_lconst (v := 0) hx hb dX3_join_275 (by decide) ?_
                exact retL (fr := fun q => q) (fw := fun _ => w) h hx hb hr hlocks hK hP hD hS dX3_join_276
              · replace h := (br h).2 c9
                refine lv_lconst (v := 1) hx hb dX3_join_271 (by decide) ?_
                refine lv_goto (tgt := 276) hx hb dX3_join_272 (by decide) ?_
                exact retL (fr := fun q => q) (fw := fun _ => w) h hx hb hr hlocks hK hP hD hS dX3_join_276
            · replace h := (br h).2 nw1_5
              by_cases nw1_6 : a1 = 13
              · replace h := (br h).1 nw1_6
                rw [ew1, nw1_6]
                refine lv_tableIn (off := 276) (tgt := 277) hx hb dX3_join_1 (by decide) (by decide) rfl (by decide) ?_
                refine lv_lload_n hx hb dX3_join_277 rfl (lv_at hl 1 rfl) ?_
                refine lv_lload_n hx hb dX3_join_278 rfl (lv_at hl 2 rfl) ?_
                refine lcmp_ne (tgt := 287) hx hb dX3_join_279 dX3_join_280 (by decide) (fun c9 => ?_) (fun c9 => ?_)
                · replace h := (br h).2 c9
                  refine lv_lconst (v := 0) hx hb dX3_join_287 (by decide) ?_
                  exact retL (fr := fun q => q) (fw := fun _ => w) h hx hb hr hlocks hK hP hD hS dX3_join_288
                · replace h := (br h).1 c9
                  refine lv_lconst (v := 1) hx hb dX3_join_283 (by decide) ?_
                  refine lv_goto (tgt := 288) hx hb dX3_join_284 (by decide) ?_
                  exact retL (fr := fun q => q) (fw := fun _ => w) h hx hb hr hlocks hK hP hD hS dX3_join_288
              · replace h := (br h).2 nw1_6
                by_cases nw1_7 : a1 = 14
                · replace h := (br h).1 nw1_7
                  rw [ew1, nw1_7]
                  refine lv_tableIn (off := 288) (tgt := 289) hx hb dX3_join_1 (by decide) (by decide) rfl (by decide) ?_
                  refine lv_lload_n hx hb dX3_join_289 rfl (lv_at hl 1 rfl) ?_
                  refine lv_lload_n hx hb dX3_join_290 rfl (lv_at hl 2 rfl) ?_
                  refine lcmp_eq (tgt := 299) hx hb dX3_join_291 dX3_join_292 (by decide) (fun c9 => ?_) (fun c9 => ?_)
                  · replace h := (br h).1 c9
                    refine lv_lconst (v := 0) hx hb dX3_join_299 (by decide) ?_
                    exact retL (fr := fun q => q) (fw := fun _ => w) h hx hb hr hlocks hK hP hD hS dX3_join_300
                  · replace h := (br h).2 c9
                    refine lv_lconst (v := 1) hx hb dX3_join_295 (by decide) ?_
                    refine lv_goto (tgt := 300) hx hb dX3_join_296 (by decide) ?_
                    exact retL (fr := fun q => q) (fw := fun _ => w) h hx hb hr hlocks hK hP hD hS dX3_join_300
                · replace h := (br h).2 nw1_7
                  by_cases nw1_8 : a1 = 15
                  · replace h := (br h).1 nw1_8
                    rw [ew1, nw1_8]
                    refine lv_tableIn (off := 300) (tgt := 301) hx hb dX3_join_1 (by decide) (by decide) rfl (by decide) ?_
                    refine lv_lload_n hx hb dX3_join_301 rfl (lv_at hl 1 rfl) ?_
                    refine lv_lload_n hx hb dX3_join_302 rfl (lv_at hl 2 rfl) ?_
                    refine lcmp_lt (tgt := 311) hx hb dX3_join_303 dX3_join_304 (by decide) (fun c9 => ?_) (fun c9 => ?_)
                    · replace h := (br h).1 c9
                      refine lv_lconst (v := 0) hx hb dX3_join_311 (by decide) ?_
                      exact retL (fr := fun q => q) (fw := fun _ => w) h hx hb hr hlocks hK hP hD hS dX3_join_312
                    · replace h := (br h).2 c9
                      refine lv_lconst (v := 1) hx hb dX3_join_307 (by decide) ?_
                      refine lv_goto (tgt := 312) hx hb dX3_join_308 (by decide) ?_
                      exact retL (fr := fun q => q) (fw := fun _ => w) h hx hb hr hlocks hK hP hD hS dX3_join_312
                  · replace h := (br h).2 nw1_8
                    by_cases nw1_9 : a1 = 16
                    · replace h := (br h).1 nw1_9
                      rw [ew1, nw1_9]
                      refine lv_tableIn (off := 312) (tgt := 313) hx hb dX3_join_1 (by decide) (by decide) rfl (by decide) ?_
                      refine lv_lload_n hx hb dX3_join_313 rfl (lv_at hl 1 rfl) ?_
                      refine lv_lload_n hx hb dX3_join_314 rfl (lv_at hl 2 rfl) ?_
                      refine lcmp_le (tgt := 323) hx hb dX3_join_315 dX3_join_316 (by decide) (fun c9 => ?_) (fun c9 => ?_)
                      · replace h := (br h).1 c9
                        refine lv_lconst (v := 0) hx hb dX3_join_323 (by decide) ?_
                        exact retL (fr := fun q => q) (fw := fun _ => w) h hx hb hr hlocks hK hP hD hS dX3_join_324
                      · replace h := (br h).2 c9
                        refine lv_lconst (v := 1) hx hb dX3_join_319 (by decide) ?_
                        refine lv_goto (tgt := 324) hx hb dX3_join_320 (by decide) ?_
                        exact retL (fr := fun q => q) (fw := fun _ => w) h hx hb hr hlocks hK hP hD hS dX3_join_324
                    · replace h := (br h).2 nw1_9
                      by_cases nw1_10 : a1 = 44
                      · replace h := (br h).1 nw1_10
                        rw [ew1, nw1_10]
                        refine lv_tableIn (off := 342) (tgt := 343) hx hb dX3_join_1 (by decide) (by decide) rfl (by decide) ?_
                        refine lv_lload_n hx hb dX3_join_343 rfl (lv_at hl 1 rfl) ?_
                        refine lv_lconst (v := 0) hx hb dX3_join_344 (by decide) ?_
                        refine lcmp_ne (tgt := 355) hx hb dX3_join_345 dX3_join_346 (by decide) (fun c9 => ?_) (fun c9 => ?_)
                        · replace h := (br h).2 c9
                          exact B355 _ _ _ h hP hD hS (lv_sub hl [] rfl)
                        · replace h := (br h).1 c9
                          refine lv_lload_n hx hb dX3_join_349 rfl (lv_at hl 2 rfl) ?_
                          refine lv_lconst (v := 0) hx hb dX3_join_350 (by decide) ?_
                          refine lcmp_eq (tgt := 359) hx hb dX3_join_351 dX3_join_352 (by decide) (fun c9 => ?_) (fun c9 => ?_)
                          · replace h := (br h).1 c9
                            refine lv_lconst (v := 0) hx hb dX3_join_359 (by decide) ?_
                            exact retL (fr := fun q => q) (fw := fun _ => w) h hx hb hr hlocks hK hP hD hS dX3_join_360
                          · replace h := (br h).2 c9
                            exact B355 _ _ _ h hP hD hS (lv_sub hl [] rfl)
                      · replace h := (br h).2 nw1_10
                        by_cases nw1_11 : a1 = 45
                        · replace h := (br h).1 nw1_11
                          rw [ew1, nw1_11]
                          refine lv_tableIn (off := 324) (tgt := 325) hx hb dX3_join_1 (by decide) (by decide) rfl (by decide) ?_
                          refine lv_lload_n hx hb dX3_join_325 rfl (lv_at hl 1 rfl) ?_
                          refine lv_lconst (v := 0) hx hb dX3_join_326 (by decide) ?_
                          refine lcmp_eq (tgt := 341) hx hb dX3_join_327 dX3_join_328 (by decide) (fun c9 => ?_) (fun c9 => ?_)
                          · replace h := (br h).1 c9
                            refine lv_lconst (v := 0) hx hb dX3_join_341 (by decide) ?_
                            exact retL (fr := fun q => q) (fw := fun _ => w) h hx hb hr hlocks hK hP hD hS dX3_join_342
                          · replace h := (br h).2 c9
                            refine lv_lload_n hx hb dX3_join_331 rfl (lv_at hl 2 rfl) ?_
                            refine lv_lconst (v := 0) hx hb dX3_join_332 (by decide) ?_
                            refine lcmp_eq (tgt := 341) hx hb dX3_join_333 dX3_join_334 (by decide) (fun c9 => ?_) (fun c9 => ?_)
                            · replace h := (br h).1 c9
                              refine lv_lconst (v := 0) hx hb dX3_join_341 (by decide) ?_
                              exact retL (fr := fun q => q) (fw := fun _ => w) h hx hb hr hlocks hK hP hD hS dX3_join_342
                            · replace h := (br h).2 c9
                              refine lv_lconst (v := 1) hx hb dX3_join_337 (by decide) ?_
                              refine lv_goto (tgt := 342) hx hb dX3_join_338 (by decide) ?_
                              exact retL (fr := fun q => q) (fw := fun _ => w) h hx hb hr hlocks hK hP hD hS dX3_join_342
                        · replace h := (br h).2 nw1_11
                          by_cases mw1_0 : a1 = 17
                          · rw [ew1, mw1_0]
                            refine lv_tableIn (off := 360) (tgt := 361) hx hb dX3_join_1 (by decide) (by decide) rfl (by decide) ?_
                            exact B361 _ _ _ h hP hD hS (lv_sub hl [] rfl)
                          · by_cases mw1_1 : a1 = 18
                            · rw [ew1, mw1_1]
                              refine lv_tableIn (off := 360) (tgt := 361) hx hb dX3_join_1 (by decide) (by decide) rfl (by decide) ?_
                              exact B361 _ _ _ h hP hD hS (lv_sub hl [] rfl)
                            · by_cases mw1_2 : a1 = 19
                              · rw [ew1, mw1_2]
                                refine lv_tableIn (off := 360) (tgt := 361) hx hb dX3_join_1 (by decide) (by decide) rfl (by decide) ?_
                                exact B361 _ _ _ h hP hD hS (lv_sub hl [] rfl)
                              · by_cases mw1_3 : a1 = 20
                                · rw [ew1, mw1_3]
                                  refine lv_tableIn (off := 360) (tgt := 361) hx hb dX3_join_1 (by decide) (by decide) rfl (by decide) ?_
                                  exact B361 _ _ _ h hP hD hS (lv_sub hl [] rfl)
                                · by_cases mw1_4 : a1 = 21
                                  · rw [ew1, mw1_4]
                                    refine lv_tableIn (off := 360) (tgt := 361) hx hb dX3_join_1 (by decide) (by decide) rfl (by decide) ?_
                                    exact B361 _ _ _ h hP hD hS (lv_sub hl [] rfl)
                                  · by_cases mw1_5 : a1 = 22
                                    · rw [ew1, mw1_5]
                                      refine lv_tableIn (off := 360) (tgt := 361) hx hb dX3_join_1 (by decide) (by decide) rfl (by decide) ?_
                                      exact B361 _ _ _ h hP hD hS (lv_sub hl [] rfl)
                                    · by_cases mw1_6 : a1 = 23
                                      · rw [ew1, mw1_6]
                                        refine lv_tableIn (off := 360) (tgt := 361) hx hb dX3_join_1 (by decide) (by decide) rfl (by decide) ?_
                                        exact B361 _ _ _ h hP hD hS (lv_sub hl [] rfl)
                                      · by_cases mw1_7 : a1 = 24
                                        · rw [ew1, mw1_7]
                                          refine lv_tableIn (off := 360) (tgt := 361) hx hb dX3_join_1 (by decide) (by decide) rfl (by decide) ?_
                                          exact B361 _ _ _ h hP hD hS (lv_sub hl [] rfl)
                                        · by_cases mw1_8 : a1 = 25
                                          · rw [ew1, mw1_8]
                                            refine lv_tableIn (off := 360) (tgt := 361) hx hb dX3_join_1 (by decide) (by decide) rfl (by decide) ?_
                                            exact B361 _ _ _ h hP hD hS (lv_sub hl [] rfl)
                                          · by_cases mw1_9 : a1 = 26
                                            · rw [ew1, mw1_9]
                                              refine lv_tableIn (off := 360) (tgt := 361) hx hb dX3_join_1 (by decide) (by decide) rfl (by decide) ?_
                                              exact B361 _ _ _ h hP hD hS (lv_sub hl [] rfl)
                                            · by_cases mw1_10 : a1 = 27
                                              · rw [ew1, mw1_10]
                                                refine lv_tableIn (off := 360) (tgt := 361) hx hb dX3_join_1 (by decide) (by decide) rfl (by decide) ?_
                                                exact B361 _ _ _ h hP hD hS (lv_sub hl [] rfl)
                                              · by_cases mw1_11 : a1 = 28
                                                · rw [ew1, mw1_11]
                                                  refine lv_tableIn (off := 360) (tgt := 361) hx hb dX3_join_1 (by decide) (by decide) rfl (by decide) ?_
                                                  exact B361 _ _ _ h hP hD hS (lv_sub hl [] rfl)
                                                · by_cases mw1_12 : a1 = 29
                                                  · rw [ew1, mw1_12]
                                                    refine lv_tableIn (off := 360) (tgt := 361) hx hb dX3_join_1 (by decide) (by decide) rfl (by decide) ?_
                                                    exact B361 _ _ _ h hP hD hS (lv_sub hl [] rfl)
                                                  · by_cases mw1_13 : a1 = 30
                                                    · rw [ew1, mw1_13]
                                                      refine lv_tableIn (off := 360) (tgt := 361) hx hb dX3_join_1 (by decide) (by decide) rfl (by decide) ?_
                                                      exact B361 _ _ _ h hP hD hS (lv_sub hl [] rfl)
                                                    · by_cases mw1_14 : a1 = 31
                                                      · rw [ew1, mw1_14]
                                                        refine lv_tableIn (off := 360) (tgt := 361) hx hb dX3_join_1 (by decide) (by decide) rfl (by decide) ?_
                                                        exact B361 _ _ _ h hP hD hS (lv_sub hl [] rfl)
                                                      · by_cases mw1_15 : a1 = 32
                                                        · rw [ew1, mw1_15]
                                                          refine lv_tableIn (off := 360) (tgt := 361) hx hb dX3_join_1 (by decide) (by decide) rfl (by decide) ?_
                                                          exact B361 _ _ _ h hP hD hS (lv_sub hl [] rfl)
                                                        · by_cases mw1_16 : a1 = 33
                                                          · rw [ew1, mw1_16]
                                                            refine lv_tableIn (off := 360) (tgt := 361) hx hb dX3_join_1 (by decide) (by decide) rfl (by decide) ?_
                                                            exact B361 _ _ _ h hP hD hS (lv_sub hl [] rfl)
                                                          · by_cases mw1_17 : a1 = 34
                                                            · rw [ew1, mw1_17]
                                                              refine lv_tableIn (off := 360) (tgt := 361) hx hb dX3_join_1 (by decide) (by decide) rfl (by decide) ?_
                                                              exact B361 _ _ _ h hP hD hS (lv_sub hl [] rfl)
                                                            · by_cases mw1_18 : a1 = 35
                                                              · rw [ew1, mw1_18]
                                                                refine lv_tableIn (off := 360) (tgt := 361) hx hb dX3_join_1 (by decide) (by decide) rfl (by decide) ?_
                                                                exact B361 _ _ _ h hP hD hS (lv_sub hl [] rfl)
                                                              · by_cases mw1_19 : a1 = 36
                                                                · rw [ew1, mw1_19]
                                                                  refine lv_tableIn (off := 360) (tgt := 361) hx hb dX3_join_1 (by decide) (by decide) rfl (by decide) ?_
                                                                  exact B361 _ _ _ h hP hD hS (lv_sub hl [] rfl)
                                                                · by_cases mw1_20 : a1 = 37
                                                                  · rw [ew1, mw1_20]
                                                                    refine lv_tableIn (off := 360) (tgt := 361) hx hb dX3_join_1 (by decide) (by decide) rfl (by decide) ?_
                                                                    exact B361 _ _ _ h hP hD hS (lv_sub hl [] rfl)
                                                                  · by_cases mw1_21 : a1 = 38
                                                                    · rw [ew1, mw1_21]
                                                                      refine lv_tableIn (off := 360) (tgt := 361) hx hb dX3_join_1 (by decide) (by decide) rfl (by decide) ?_
                                                                      exact B361 _ _ _ h hP hD hS (lv_sub hl [] rfl)
                                                                    · by_cases mw1_22 : a1 = 39
                                                                      · rw [ew1, mw1_22]
                                                                        refine lv_tableIn (off := 360) (tgt := 361) hx hb dX3_join_1 (by decide) (by decide) rfl (by decide) ?_
                                                                        exact B361 _ _ _ h hP hD hS (lv_sub hl [] rfl)
                                                                      · by_cases mw1_23 : a1 = 40
                                                                        · rw [ew1, mw1_23]
                                                                          refine lv_tableIn (off := 360) (tgt := 361) hx hb dX3_join_1 (by decide) (by decide) rfl (by decide) ?_
                                                                          exact B361 _ _ _ h hP hD hS (lv_sub hl [] rfl)
                                                                        · by_cases mw1_24 : a1 = 41
                                                                          · rw [ew1, mw1_24]
                                                                            refine lv_tableIn (off := 360) (tgt := 361) hx hb dX3_join_1 (by decide) (by decide) rfl (by decide) ?_
                                                                            exact B361 _ _ _ h hP hD hS (lv_sub hl [] rfl)
                                                                          · by_cases mw1_25 : a1 = 42
                                                                            · rw [ew1, mw1_25]
                                                                              refine lv_tableIn (off := 360) (tgt := 361) hx hb dX3_join_1 (by decide) (by decide) rfl (by decide) ?_
                                                                              exact B361 _ _ _ h hP hD hS (lv_sub hl [] rfl)
                                                                            · by_cases mw1_26 : a1 = 43
                                                                              · rw [ew1, mw1_26]
                                                                                refine lv_tableIn (off := 360) (tgt := 361) hx hb dX3_join_1 (by decide) (by decide) rfl (by decide) ?_
                                                                                exact B361 _ _ _ h hP hD hS (lv_sub hl [] rfl)
                                                                              · rw [ew1]
                                                                                refine lv_tableOut (tgt := 361) hx hb dX3_join_1 (by have := ne_toInt (k := 7) 7 (by decide) nw1_0; have := ne_toInt (k := 8) 8 (by decide) nw1_1; have := ne_toInt (k := 9) 9 (by decide) nw1_2; have := ne_toInt (k := 10) 10 (by decide) nw1_3; have := ne_toInt (k := 11) 11 (by decide) nw1_4; have := ne_toInt (k := 12) 12 (by decide) nw1_5; have := ne_toInt (k := 13) 13 (by decide) nw1_6; have := ne_toInt (k := 14) 14 (by decide) nw1_7; have := ne_toInt (k := 15) 15 (by decide) nw1_8; have := ne_toInt (k := 16) 16 (by decide) nw1_9; have := ne_toInt (k := 44) 44 (by decide) nw1_10; have := ne_toInt (k := 45) 45 (by decide) nw1_11; have := ne_toInt (k := 17) 17 (by decide) mw1_0; have := ne_toInt (k := 18) 18 (by decide) mw1_1; have := ne_toInt (k := 19) 19 (by decide) mw1_2; have := ne_toInt (k := 20) 20 (by decide) mw1_3; have := ne_toInt (k := 21) 21 (by decide) mw1_4; have := ne_toInt (k := 22) 22 (by decide) mw1_5; have := ne_toInt (k := 23) 23 (by decide) mw1_6; have := ne_toInt (k := 24) 24 (by decide) mw1_7; have := ne_toInt (k := 25) 25 (by decide) mw1_8; have := ne_toInt (k := 26) 26 (by decide) mw1_9; have := ne_toInt (k := 27) 27 (by decide) mw1_10; have := ne_toInt (k := 28) 28 (by decide) mw1_11; have := ne_toInt (k := 29) 29 (by decide) mw1_12; have := ne_toInt (k := 30) 30 (by decide) mw1_13; have := ne_toInt (k := 31) 31 (by decide) mw1_14; have := ne_toInt (k := 32) 32 (by decide) mw1_15; have := ne_toInt (k := 33) 33 (by decide) mw1_16; have := ne_toInt (k := 34) 34 (by decide) mw1_17; have := ne_toInt (k := 35) 35 (by decide) mw1_18; have := ne_toInt (k := 36) 36 (by decide) mw1_19; have := ne_toInt (k := 37) 37 (by decide) mw1_20; have := ne_toInt (k := 38) 38 (by decide) mw1_21; have := ne_toInt (k := 39) 39 (by decide) mw1_22; have := ne_toInt (k := 40) 40 (by decide) mw1_23; have := ne_toInt (k := 41) 41 (by decide) mw1_24; have := ne_toInt (k := 42) 42 (by decide) mw1_25; have := ne_toInt (k := 43) 43 (by decide) mw1_26; omega) (by decide) ?_
                                                                                exact B361 _ _ _ h hP hD hS (lv_sub hl [] rfl)
theorem hds_X3_work : yX3_work.cls ≠ "java/lang/invoke/MethodHandle" ∧ yX3_work.cls ≠ "java/lang/invoke/VarHandle" ∧ (parseMethodDescriptor yX3_work.desc).map (fun d => d.parameters.length) = some 1 := ⟨by decide +kernel, by decide +kernel, by decide +kernel⟩
theorem hd_X3_work : yX3_work.cls = RX3 ∧ yX3_work.cls ≠ "java/lang/invoke/MethodHandle" ∧ yX3_work.cls ≠ "java/lang/invoke/VarHandle" ∧ (parseMethodDescriptor yX3_work.desc).map (fun d => d.parameters.length) = some 1 := ⟨rfl, hds_X3_work⟩
def f_X3_work_b206 (N : Nat) (L : VV) (x2 : Int32) : Option (Int64 × VV) :=
  if x2 = 1 then some (L.2.2 7 0, L) else some ((-9223372036854775808), L)
def f_X3_work_b185 (N : Nat) (L : VV)  : Option (Int64 × VV) :=
  some ((-9223372036854775808), L)
def f_X3_work_b167 (N : Nat) (L : VV) (x1 : Int32) (x2 : Int32) (x3 : Int32) (x6 : Int64) : Option (((Int32 × Int32 × VV) ⊕ (Int64 × VV))) :=
  if 1000000000000 < x6 then inrO (f_X3_work_b185 N L) else if (-1000000000000) ≤ x6 then gin x2 64 (some (.inl (x2 + 1, x3 + 1, sj L 7 x2.toNatClampNeg x6))) else inrO (f_X3_work_b185 N L)
def f_X3_work_b148 (N : Nat) (L : VV) (x1 : Int32) (x2 : Int32) (x3 : Int32) (z0 : Int64) : Option (((Int32 × Int32 × VV) ⊕ (Int64 × VV))) :=
  f_X3_work_b167 N L x1 x2 x3 z0
def f_X3_work_b92 (N : Nat) (L : VV)  : Option (Int64 × VV) :=
  some ((-9223372036854775808), L)
def f_X3_work_b73 (N : Nat) (L : VV) (x1 : Int32) (x2 : Int32) (x3 : Int32) (x4 : Int32) (z0 : Int32) : Option (((Int32 × Int32 × VV) ⊕ (Int64 × VV))) :=
  if x2 - z0 < 0 then inrO (f_X3_work_b92 N L) else if (x2 - z0) + 1 < 64 then if z0 = 2 then gin (x2 - z0) 64 (gin ((x2 - z0) + 1) 64 (bnd (f_X3_join x4 (L.2.2 7 ((x2 - z0).toNatClampNeg)) (L.2.2 7 (((x2 - z0) + 1).toNatClampNeg))) (fun q7303 => f_X3_work_b167 N L x1 (x2 - z0) x3 q7303))) else if z0 = 1 then gin (x2 - z0) 64 (if L.2.2 7 ((x2 - z0).toNatClampNeg) = 0 then f_X3_work_b148 N L x1 (x2 - z0) x3 1 else f_X3_work_b148 N L x1 (x2 - z0) x3 0) else gin x3 64 (bnd (f_X3_leaf L x4 (L.2.1 1 x3.toNatClampNeg)) (fun q7301 => f_X3_work_b167 N L x1 (x2 - z0) x3 q7301)) else inrO (f_X3_work_b92 N L)
def f_X3_work_s25 (N : Nat) (L : VV) (x1 : Int32) (x2 : Int32) (x3 : Int32) : Option (((Int32 × Int32 × VV) ⊕ (Int64 × VV))) :=
  gin x1 3 (if L.2.1 5 x1.toNatClampNeg ≤ x3 then inrO (f_X3_work_b206 N L x2) else if (64 : Int32) ≤ x3 then inrO (f_X3_work_b206 N L x2) else gin x3 64 (if L.2.1 0 x3.toNatClampNeg = 46 then f_X3_work_b73 N L x1 x2 x3 (L.2.1 0 x3.toNatClampNeg) 1 else bnd (f_X3_isLeaf (L.2.1 0 x3.toNatClampNeg)) (fun q2501 => if q2501 = 0 then f_X3_work_b73 N L x1 x2 x3 (L.2.1 0 x3.toNatClampNeg) 2 else f_X3_work_b73 N L x1 x2 x3 (L.2.1 0 x3.toNatClampNeg) 0)))
def f_X3_work (N : Nat) (L : VV) (a1 : Int32) : Option (Int64 × VV) :=
  bnd (f_X3_isTold L a1) (fun q1 => if q1 = 0 then some ((-9223372036854775808), L) else gin a1 3 (itr (fun q : Int32 × Int32 × VV => f_X3_work_s25 N q.2.2 a1 q.1 q.2.1) N (0, jmax (L.2.1 4 a1.toNatClampNeg) 0, L)))
set_option maxHeartbeats 4000000 in
set_option maxRecDepth 100000 in
theorem k_X3_work (l : Launch) (G : va_G) (cy : Nat → ClassId) (ev : Nat → Nat) (N : Nat) (adL : Nat → Nat) (L : VV) (a1 : Int32) (res : Int64 × VV) (h : f_X3_work N L a1 = some res) : MetL l yX3_work cX3_work 8 (some .long) 1 28 G cy ev [.ref (adL 0), .int a1] (wj [cX3 cy adL L]) res.1 (wj [cX3 cy adL res.2]) := by
  refine MetQ.start (by decide +kernel) (Nat.le_of_ble_eq_true rfl) (fun p e s m args below meth c A ls hx hb hr hml hown hts hlocks hK hP hD hA hl hE => ?_)
  have hS : va_S A s.heap s.heap [] := va_S.rf
  have hown : s.vm.findClass RX3 = some m.cls := hown
  have hl : lv_has ls 8 [(0, .ref (adL 0)), (1, .int a1)] := hl
  have B206 : ∀ (x2 : Int32) (L : VV) (H : Heap) (locs : List Loc) (ls : Array Slot), f_X3_work_b206 N L x2 = some res → va_P G vwCl (wj [cX3 cy adL L]) H → va_D A (wj [cX3 cy adL L]) → va_S A s.heap H locs → lv_has ls 8 [(0, .ref (adL 0)), (2, .int x2)] → W p l e (rmX 1 28) s m args below meth c H locs 0 0 (MQ below (mQl (res.1) G cy A (wj [cX3 cy adL res.2])) args s 0 0 A) (F0 m 206 ls []) := by
    intro x2 L H locs ls h hP hD hS hl
    delta f_X3_work_b206 at h
    refine lv_iload_n hx hb dX3_work_206 rfl (lv_at hl 1 rfl) ?_
    refine lv_iconst (v := 1) hx hb dX3_work_207 (by decide) ?_
    refine lv_icmp_ne (tgt := 220) hx hb dX3_work_208 (by decide) (fun c9 => ?_) (fun c9 => ?_)
    · replace h := (br h).2 c9
      refine lv_ldc2 (v := (-9223372036854775808)) hx hb hown (hts _ wm_29_15) dX3_work_220 ?_
      exact retL (fr := fun q => q.1) (fw := fun q => wj [cX3 cy adL q.2]) h hx hb hr hlocks hK hP hD hS dX3_work_223
    · replace h := (br h).1 c9
      refine lv_aload_n hx hb dX3_work_211 rfl (lv_at hl 0 rfl) ?_
      refine go_3_34 (ci := 0) hx hb hts hown hK hE hP rfl dX3_work_212 ?_
      refine lv_iconst (v := 0) hx hb dX3_work_215 (by decide) ?_
      refine ldWJ (ci := 0) (k0 := 6) (g := L.2.2 7) (j := 0) hx hb hK hP rfl cX3_a7 rfl (vin_dec (by decide)) (by decide) dX3_work_216 ?_
      refine lv_goto (tgt := 223) hx hb dX3_work_217 (by decide) ?_
      exact retL (fr := fun q => q.1) (fw := fun q => wj [cX3 cy adL q.2]) h hx hb hr hlocks hK hP hD hS dX3_work_223
  have B185 : ∀ (L : VV) (H : Heap) (locs : List Loc) (ls : Array Slot), f_X3_work_b185 N L = some res → va_P G vwCl (wj [cX3 cy adL L]) H → va_D A (wj [cX3 cy adL L]) → va_S A s.heap H locs → lv_has ls 8 [] → W p l e (rmX 1 28) s m args below meth c H locs 0 0 (MQ below (mQl (res.1) G cy A (wj [cX3 cy adL res.2])) args s 0 0 A) (F0 m 185 ls []) := by
    intro L H locs ls h hP hD hS hl
    delta f_X3_work_b185 at h
    refine lv_ldc2 (v := (-9223372036854775808)) hx hb hown (hts _ wm_29_15) dX3_work_185 ?_
    exact retL (fr := fun q => q.1) (fw := fun q => wj [cX3 cy adL q.2]) h hx hb hr hlocks hK hP hD hS dX3_work_188
  have B92 : ∀ (L : VV) (H : Heap) (locs : List Loc) (ls : Array Slot), f_X3_work_b92 N L = some res → va_P G vwCl (wj [cX3 cy adL L]) H → va_D A (wj [cX3 cy adL L]) → va_S A s.heap H locs → lv_has ls 8 [] → W p l e (rmX 1 28) s m args below meth c H locs 0 0 (MQ below (mQl (res.1) G cy A (wj [cX3 cy adL res.2])) args s 0 0 A) (F0 m 92 ls []) := by
    intro L H locs ls h hP hD hS hl
    delta f_X3_work_b92 at h
    refine lv_ldc2 (v := (-9223372036854775808)) hx hb hown (hts _ wm_29_15) dX3_work_92 ?_
    exact retL (fr := fun q => q.1) (fw := fun q => wj [cX3 cy adL q.2]) h hx hb hr hlocks hK hP hD hS dX3_work_95
  have L25 : ∀ (x1 : Int32) (n : Nat) (x2 : Int32) (x3 : Int32) (L : VV) (H : Heap) (locs : List Loc) (ls : Array Slot), itr (fun q : Int32 × Int32 × VV => f_X3_work_s25 N q.2.2 x1 q.1 q.2.1) n (x2, x3, L) = some res → va_P G vwCl (wj [cX3 cy adL L]) H → va_D A (wj [cX3 cy adL L]) → va_S A s.heap H locs → lv_has ls 8 [(0, .ref (adL 0)), (1, .int x1), (2, .int x2), (3, .int x3)] → W p l e (rmX 1 28) s m args below meth c H locs 0 0 (MQ below (mQl (res.1) G cy A (wj [cX3 cy adL res.2])) args s 0 0 A) (F0 m 25 ls []) := by
    intro x1 n
    induction n with
    | zero => intro x2 x3 L H locs ls h; exact (itr_zero h).elim
    | succ n ih1 =>
      intro x2 x3 L H locs ls h hP hD hS hl
      obtain ⟨y1, h, hy1⟩ := itr_inv h
      have h : f_X3_work_s25 N L x1 x2 x3 = some y1 := h
      have B167 : ∀ (x2 : Int32) (x3 : Int32) (x6 : Int64) (L : VV) (H : Heap) (locs : List Loc) (ls : Array Slot), f_X3_work_b167 N L x1 x2 x3 x6 = some y1 → va_P G vwCl (wj [cX3 cy adL L]) H → va_D A (wj [cX3 cy adL L]) → va_S A s.heap H locs → lv_has ls 8 [(0, .ref (adL 0)), (1, .int x1), (2, .int x2), (3, .int x3), (6, .long x6)] → W p l e (rmX 1 28) s m args below meth c H locs 0 0 (MQ below (mQl (res.1) G cy A (wj [cX3 cy adL res.2])) args s 0 0 A) (F0 m 167 ls []) := by
        intro x2 x3 x6 L H locs ls h hP hD hS hl
        delta f_X3_work_b167 at h
        refine lv_lload hx hb dX3_work_167 (lv_at hl 4 rfl) ?_
        refine lv_ldc2 (v := (1000000000000)) hx hb hown (hts _ wm_29_17) dX3_work_169 ?_
        refine lcmp_gt (tgt := 185) hx hb dX3_work_172 dX3_work_173 (by decide) (fun c9 => ?_) (fun c9 => ?_)
        · replace h := (br h).1 c9
          replace h := itr_exit h hy1
          exact B185 L _ _ _ h hP hD hS (lv_sub hl [] rfl)
        · replace h := (br h).2 c9
          refine lv_lload hx hb dX3_work_176 (lv_at hl 4 rfl) ?_
          refine lv_ldc2 (v := (-1000000000000)) hx hb hown (hts _ wm_29_18) dX3_work_178 ?_
          refine lcmp_ge (tgt := 189) hx hb dX3_work_181 dX3_work_182 (by decide) (fun c9 => ?_) (fun c9 => ?_)
          · replace h := (br h).1 c9
            refine lv_aload_n hx hb dX3_work_189 rfl (lv_at hl 0 rfl) ?_
            refine go_3_34 (ci := 0) hx hb hts hown hK hE hP rfl dX3_work_190 ?_
            refine lv_iload_n hx hb dX3_work_193 rfl (lv_at hl 2 rfl) ?_
            refine lv_lload hx hb dX3_work_194 (lv_at hl 4 rfl) ?_
            replace h := gin_inv h
            obtain ⟨h9, h⟩ := h
            refine stWJ (ci := 0) (k0 := 6) (j := x2.toNatClampNeg) (cs' := [cX3 cy adL (sj L 7 x2.toNatClampNeg x6)]) hx hb hK hP hD hS rfl cX3_a7 h9 rfl cX3_s7 rfl dX3_work_196 (fun H locs hP hD hS => ?_)
            refine lv_iinc (v := x2 + 1) (lv' := [(2, .int (x2 + 1)), (0, .ref (adL 0)), (1, .int x1), (3, .int x3), (6, .long x6)]) hx hb dX3_work_197 hl (k := 2) rfl rfl (by decide) rfl (fun ls hl => ?_)
            refine lv_iinc (v := x3 + 1) (lv' := [(3, .int (x3 + 1)), (2, .int (x2 + 1)), (0, .ref (adL 0)), (1, .int x1), (6, .long x6)]) hx hb dX3_work_200 hl (k := 3) rfl rfl (by decide) rfl (fun ls hl => ?_)
            refine lv_goto (tgt := 25) hx hb dX3_work_203 (by decide) ?_
            replace h := itr_back h hy1
            exact ih1 (x2 + 1) (x3 + 1) (sj L 7 x2.toNatClampNeg x6) _ _ _ h hP hD hS (lv_sub hl [2, 3, 1, 0] rfl)
          · replace h := (br h).2 c9
            replace h := itr_exit h hy1
            exact B185 L _ _ _ h hP hD hS (lv_sub hl [] rfl)
      have B148 : ∀ (x2 : Int32) (x3 : Int32) (z0 : Int64) (L : VV) (H : Heap) (locs : List Loc) (ls : Array Slot), f_X3_work_b148 N L x1 x2 x3 z0 = some y1 → va_P G vwCl (wj [cX3 cy adL L]) H → va_D A (wj [cX3 cy adL L]) → va_S A s.heap H locs → lv_has ls 8 [(0, .ref (adL 0)), (1, .int x1), (2, .int x2), (3, .int x3)] → W p l e (rmX 1 28) s m args below meth c H locs 0 0 (MQ below (mQl (res.1) G cy A (wj [cX3 cy adL res.2])) args s 0 0 A) (F0 m 148 ls [.long z0]) := by
        intro x2 x3 z0 L H locs ls h hP hD hS hl
        delta f_X3_work_b148 at h
        refine lv_lstore (lv' := [(6, .long z0), (0, .ref (adL 0)), (1, .int x1), (2, .int x2), (3, .int x3)]) hx hb dX3_work_148 hl (by decide) rfl (fun ls hl => ?_)
        refine lv_goto (tgt := 167) hx hb dX3_work_150 (by decide) ?_
        exact B167 x2 x3 z0 L _ _ _ h hP hD hS (lv_sub hl [1, 2, 3, 4, 0] rfl)
      have B73 : ∀ (x2 : Int32) (x3 : Int32) (x4 : Int32) (z0 : Int32) (L : VV) (H : Heap) (locs : List Loc) (ls : Array Slot), f_X3_work_b73 N L x1 x2 x3 x4 z0 = some y1 → va_P G vwCl (wj [cX3 cy adL L]) H → va_D A (wj [cX3 cy adL L]) → va_S A s.heap H locs → lv_has ls 8 [(0, .ref (adL 0)), (1, .int x1), (2, .int x2), (3, .int x3), (4, .int x4)] → W p l e (rmX 1 28) s m args below meth c H locs 0 0 (MQ below (mQl (res.1) G cy A (wj [cX3 cy adL res.2])) args s 0 0 A) (F0 m 73 ls [.int z0]) := by
        intro x2 x3 x4 z0 L H locs ls h hP hD hS hl
        delta f_X3_work_b73 at h
        refine lv_istore (lv' := [(5, .int z0), (0, .ref (adL 0)), (1, .int x1), (2, .int x2), (3, .int x3), (4, .int x4)]) hx hb dX3_work_73 hl (by decide) rfl (fun ls hl => ?_)
        refine lv_iload_n hx hb dX3_work_75 rfl (lv_at hl 3 rfl) ?_
        refine lv_iload hx hb dX3_work_76 (lv_at hl 0 rfl) ?_
        refine lv_isub hx hb dX3_work_78 ?_
        refine lv_istore_n (lv' := [(2, .int (x2 - z0)), (5, .int z0), (0, .ref (adL 0)), (1, .int x1), (3, .int x3), (4, .int x4)]) hx hb dX3_work_79 rfl hl (by decide) rfl (fun ls hl => ?_)
        refine lv_iload_n hx hb dX3_work_80 rfl (lv_at hl 0 rfl) ?_
        refine lv_if_lt (tgt := 92) hx hb dX3_work_81 (by decide) (fun c9 => ?_) (fun c9 => ?_)
        · replace h := (br h).1 c9
          replace h := itr_exit h hy1
          exact B92 L _ _ _ h hP hD hS (lv_sub hl [] rfl)
        · replace h := (br h).2 c9
          refine lv_iload_n hx hb dX3_work_84 rfl (lv_at hl 0 rfl) ?_
          refine lv_iconst (v := 1) hx hb dX3_work_85 (by decide) ?_
          refine lv_iadd hx hb dX3_work_86 ?_
          refine lv_bipush (v := 64) hx hb dX3_work_87 (by decide) ?_
          refine lv_icmp_lt (tgt := 96) hx hb dX3_work_89 (by decide) (fun c9 => ?_) (fun c9 => ?_)
          · replace h := (br h).1 c9
            refine lv_iload hx hb dX3_work_96 (lv_at hl 1 rfl) ?_
            refine lv_iconst (v := 2) hx hb dX3_work_98 (by decide) ?_
            refine lv_icmp_ne (tgt := 126) hx hb dX3_work_99 (by decide) (fun c9 => ?_) (fun c9 => ?_)
            · replace h := (br h).2 c9
              refine lv_iload hx hb dX3_work_126 (lv_at hl 1 rfl) ?_
              refine lv_iconst (v := 1) hx hb dX3_work_128 (by decide) ?_
              refine lv_icmp_ne (tgt := 153) hx hb dX3_work_129 (by decide) (fun c9 => ?_) (fun c9 => ?_)
              · replace h := (br h).2 c9
                refine lv_aload_n hx hb dX3_work_153 rfl (lv_at hl 2 rfl) ?_
                refine lv_iload hx hb dX3_work_154 (lv_at hl 5 rfl) ?_
                refine lv_aload_n hx hb dX3_work_156 rfl (lv_at hl 2 rfl) ?_
                refine go_3_15 (ci := 0) hx hb hts hown hK hE hP rfl dX3_work_157 ?_
                refine lv_iload_n hx hb dX3_work_160 rfl (lv_at hl 4 rfl) ?_
                replace h := gin_inv h
                obtain ⟨h9, h⟩ := h
                refine ldWI (ci := 0) (k0 := 2) (g := L.2.1 1) (j := x3.toNatClampNeg) hx hb hK hP rfl cX3_a1 rfl h9 rfl dX3_work_161 ?_
                replace h := bd h
                obtain ⟨q7301, h7302, h⟩ := h
                refine callWVl (As := [.int x4, .int (L.2.1 1 x3.toNatClampNeg)]) (rest := []) (cs' := [cX3 cy adL L]) (isC := [0]) (isR := []) hx hb hml hown hts (k_X3_leaf l G cy ev adL L x4 (L.2.1 1 x3.toNatClampNeg) q7301 h7302) wm_30_2 wm_30_3 wm_30_4 wm_5_0 wm_30_5 hd_X3_leaf ⟨by decide, by decide⟩ hK hP hD hS hA hE rfl rfl rfl (cov_of (n := 1) rfl (by decide)) (by decide) rfl (recvW (ci := 0) hK hP rfl cX3_o rfl) rfl rfl hl.1 (Nat.le_of_ble_eq_true rfl) dX3_work_162 (fun H locs hP hD hS => ?_)
                refine lv_lstore (lv' := [(6, .long q7301), (2, .int (x2 - z0)), (5, .int z0), (0, .ref (adL 0)), (1, .int x1), (3, .int x3), (4, .int x4)]) hx hb dX3_work_165 hl (by decide) rfl (fun ls hl => ?_)
                exact B167 (x2 - z0) x3 q7301 L _ _ _ h hP hD hS (lv_sub hl [3, 4, 1, 5, 0] rfl)
              · replace h := (br h).1 c9
                refine lv_aload_n hx hb dX3_work_132 rfl (lv_at hl 2 rfl) ?_
                refine go_3_34 (ci := 0) hx hb hts hown hK hE hP rfl dX3_work_133 ?_
                refine lv_iload_n hx hb dX3_work_136 rfl (lv_at hl 0 rfl) ?_
                replace h := gin_inv h
                obtain ⟨h9, h⟩ := h
                refine ldWJ (ci := 0) (k0 := 6) (g := L.2.2 7) (j := (x2 - z0).toNatClampNeg) hx hb hK hP rfl cX3_a7 rfl h9 rfl dX3_work_137 ?_
                refine lv_lconst (v := 0) hx hb dX3_work_138 (by decide) ?_
                refine lcmp_ne (tgt := 147) hx hb dX3_work_139 dX3_work_140 (by decide) (fun c9 => ?_) (fun c9 => ?_)
                · replace h := (br h).2 c9
                  refine lv_lconst (v := 0) hx hb dX3_work_147 (by decide) ?_
                  exact B148 (x2 - z0) x3 0 L _ _ _ h hP hD hS (lv_sub hl [2, 3, 0, 4] rfl)
                · replace h := (br h).1 c9
                  refine lv_lconst (v := 1) hx hb dX3_work_143 (by decide) ?_
                  refine lv_goto (tgt := 148) hx hb dX3_work_144 (by decide) ?_
                  exact B148 (x2 - z0) x3 1 L _ _ _ h hP hD hS (lv_sub hl [2, 3, 0, 4] rfl)
            · replace h := (br h).1 c9
              refine lv_iload hx hb dX3_work_102 (lv_at hl 5 rfl) ?_
              refine lv_aload_n hx hb dX3_work_104 rfl (lv_at hl 2 rfl) ?_
              refine go_3_34 (ci := 0) hx hb hts hown hK hE hP rfl dX3_work_105 ?_
              refine lv_iload_n hx hb dX3_work_108 rfl (lv_at hl 0 rfl) ?_
              replace h := gin_inv h
              obtain ⟨h9, h⟩ := h
              refine ldWJ (ci := 0) (k0 := 6) (g := L.2.2 7) (j := (x2 - z0).toNatClampNeg) hx hb hK hP rfl cX3_a7 rfl h9 rfl dX3_work_109 ?_
              refine lv_aload_n hx hb dX3_work_110 rfl (lv_at hl 2 rfl) ?_
              refine go_3_34 (ci := 0) hx hb hts hown hK hE hP rfl dX3_work_111 ?_
              refine lv_iload_n hx hb dX3_work_114 rfl (lv_at hl 0 rfl) ?_
              refine lv_iconst (v := 1) hx hb dX3_work_115 (by decide) ?_
              refine lv_iadd hx hb dX3_work_116 ?_
              replace h := gin_inv h
              obtain ⟨h9, h⟩ := h
              refine ldWJ (ci := 0) (k0 := 6) (g := L.2.2 7) (j := ((x2 - z0) + 1).toNatClampNeg) hx hb hK hP rfl cX3_a7 rfl h9 rfl dX3_work_117 ?_
              replace h := bd h
              obtain ⟨q7303, h7304, h⟩ := h
              refine callSl0 (As := [.int x4, .long (L.2.2 7 ((x2 - z0).toNatClampNeg)), .long (L.2.2 7 (((x2 - z0) + 1).toNatClampNeg))]) (rest := []) hx hb hml hown hts (k_X3_join l G cy ev (wj [cX3 cy adL L]) x4 (L.2.2 7 ((x2 - z0).toNatClampNeg)) (L.2.2 7 (((x2 - z0) + 1).toNatClampNeg)) q7303 h7304) wm_29_23 wm_30_0 wm_5_0 wm_30_1 hd_X3_join ⟨by decide, by decide⟩ hK hP hD hS hA hE rfl rfl hl.1 (Nat.le_of_ble_eq_true rfl) dX3_work_118 (fun H locs hP hD hS => ?_)
              refine lv_lstore (lv' := [(6, .long q7303), (2, .int (x2 - z0)), (5, .int z0), (0, .ref (adL 0)), (1, .int x1), (3, .int x3), (4, .int x4)]) hx hb dX3_work_121 hl (by decide) rfl (fun ls hl => ?_)
              refine lv_goto (tgt := 167) hx hb dX3_work_123 (by decide) ?_
              exact B167 (x2 - z0) x3 q7303 L _ _ _ h hP hD hS (lv_sub hl [3, 4, 1, 5, 0] rfl)
          · replace h := (br h).2 c9
            replace h := itr_exit h hy1
            exact B92 L _ _ _ h hP hD hS (lv_sub hl [] rfl)
      delta f_X3_work_s25 at h
      refine lv_iload_n hx hb dX3_work_25 rfl (lv_at hl 3 rfl) ?_
      refine lv_aload_n hx hb dX3_work_26 rfl (lv_at hl 0 rfl) ?_
      refine go_3_28 (ci := 0) hx hb hts hown hK hE hP rfl dX3_work_27 ?_
      refine lv_iload_n hx hb dX3_work_30 rfl (lv_at hl 1 rfl) ?_
      replace h := gin_inv h
      obtain ⟨h9, h⟩ := h
      refine ldWI (ci := 0) (k0 := 4) (g := L.2.1 5) (j := x1.toNatClampNeg) hx hb hK hP rfl cX3_a5 rfl h9 rfl dX3_work_31 ?_
      refine lv_icmp_ge (tgt := 206) hx hb dX3_work_32 (by decide) (fun c9 => ?_) (fun c9 => ?_)
      · replace h := (br h).1 c9
        replace h := itr_exit h hy1
        exact B206 x2 L _ _ _ h hP hD hS (lv_sub hl [0, 2] rfl)
      · replace h := (br h).2 c9
        refine lv_iload_n hx hb dX3_work_35 rfl (lv_at hl 3 rfl) ?_
        refine lv_bipush (v := 64) hx hb dX3_work_36 (by decide) ?_
        refine lv_icmp_ge (tgt := 206) hx hb dX3_work_38 (by decide) (fun c9 => ?_) (fun c9 => ?_)
        · replace h := (br h).1 c9
          replace h := itr_exit h hy1
          exact B206 x2 L _ _ _ h hP hD hS (lv_sub hl [0, 2] rfl)
        · replace h := (br h).2 c9
          refine lv_aload_n hx hb dX3_work_41 rfl (lv_at hl 0 rfl) ?_
          refine go_3_9 (ci := 0) hx hb hts hown hK hE hP rfl dX3_work_42 ?_
          refine lv_iload_n hx hb dX3_work_45 rfl (lv_at hl 3 rfl) ?_
          replace h := gin_inv h
          obtain ⟨h9, h⟩ := h
          refine ldWI (ci := 0) (k0 := 1) (g := L.2.1 0) (j := x3.toNatClampNeg) hx hb hK hP rfl cX3_a0 rfl h9 rfl dX3_work_46 ?_
          refine lv_istore (lv' := [(4, .int (L.2.1 0 x3.toNatClampNeg)), (0, .ref (adL 0)), (1, .int x1), (2, .int x2), (3, .int x3)]) hx hb dX3_work_47 hl (by decide) rfl (fun ls hl => ?_)
          refine lv_iload hx hb dX3_work_49 (lv_at hl 0 rfl) ?_
          refine lv_bipush (v := 46) hx hb dX3_work_51 (by decide) ?_
          refine lv_icmp_ne (tgt := 60) hx hb dX3_work_53 (by decide) (fun c9 => ?_) (fun c9 => ?_)
          · replace h := (br h).2 c9
            refine lv_iload hx hb dX3_work_60 (lv_at hl 0 rfl) ?_
            replace h := bd h
            obtain ⟨q2501, h2502, h⟩ := h
            refine callSi0 (As := [.int (L.2.1 0 x3.toNatClampNeg)]) (rest := []) hx hb hml hown hts (k_X3_isLeaf l G cy ev (wj [cX3 cy adL L]) (L.2.1 0 x3.toNatClampNeg) q2501 h2502) wm_29_20 wm_29_21 wm_5_0 wm_29_22 hd_X3_isLeaf ⟨by decide, by decide⟩ hK hP hD hS hA hE rfl rfl hl.1 (Nat.le_of_ble_eq_true rfl) dX3_work_62 (fun H locs hP hD hS => ?_)
            refine lv_if_eq (tgt := 72) hx hb dX3_work_65 (by decide) (fun c9 => ?_) (fun c9 => ?_)
            · replace h := (br h).1 c9
              refine lv_iconst (v := 2) hx hb dX3_work_72 (by decide) ?_
              exact B73 x2 x3 (L.2.1 0 x3.toNatClampNeg) 2 L _ _ _ h hP hD hS (lv_sub hl [1, 2, 3, 4, 0] rfl)
            · replace h := (br h).2 c9
              refine lv_iconst (v := 0) hx hb dX3_work_68 (by decide) ?_
              refine lv_goto (tgt := 73) hx hb dX3_work_69 (by decide) ?_
              exact B73 x2 x3 (L.2.1 0 x3.toNatClampNeg) 0 L _ _ _ h hP hD hS (lv_sub hl [1, 2, 3, 4, 0] rfl)
          · replace h := (br h).1 c9
            refine lv_iconst (v := 1) hx hb dX3_work_56 (by decide) ?_
            refine lv_goto (tgt := 73) hx hb dX3_work_57 (by decide) ?_
            exact B73 x2 x3 (L.2.1 0 x3.toNatClampNeg) 1 L _ _ _ h hP hD hS (lv_sub hl [1, 2, 3, 4, 0] rfl)
  delta f_X3_work at h
  refine lv_aload_n hx hb dX3_work_0 rfl (lv_at hl 0 rfl) ?_
  refine lv_iload_n hx hb dX3_work_1 rfl (lv_at hl 1 rfl) ?_
  replace h := bd h
  obtain ⟨q1, h2, h⟩ := h
  refine callWVi (As := [.int a1]) (rest := []) (cs' := [cX3 cy adL L]) (isC := [0]) (isR := []) hx hb hml hown hts (k_X3_isTold l G cy ev adL L a1 q1 h2) wm_29_19 wm_18_4 wm_18_5 wm_5_0 wm_18_6 hd_X3_isTold ⟨by decide, by decide⟩ hK hP hD hS hA hE rfl rfl rfl (cov_of (n := 1) rfl (by decide)) (by decide) rfl (recvW (ci := 0) hK hP rfl cX3_o rfl) rfl rfl hl.1 (Nat.le_of_ble_eq_true rfl) dX3_work_2 (fun H locs hP hD hS => ?_)
  refine lv_if_ne (tgt := 12) hx hb dX3_work_5 (by decide) (fun c9 => ?_) (fun c9 => ?_)
  · replace h := (br h).2 c9
    refine lv_iconst (v := 0) hx hb dX3_work_12 (by decide) ?_
    refine lv_istore_n (lv' := [(2, .int 0), (0, .ref (adL 0)), (1, .int a1)]) hx hb dX3_work_13 rfl hl (by decide) rfl (fun ls hl => ?_)
    refine lv_aload_n hx hb dX3_work_14 rfl (lv_at hl 1 rfl) ?_
    refine go_3_25 (ci := 0) hx hb hts hown hK hE hP rfl dX3_work_15 ?_
    refine lv_iload_n hx hb dX3_work_18 rfl (lv_at hl 2 rfl) ?_
    replace h := gin_inv h
    obtain ⟨h9, h⟩ := h
    refine ldWI (ci := 0) (k0 := 3) (g := L.2.1 4) (j := a1.toNatClampNeg) hx hb hK hP rfl cX3_a4 rfl h9 rfl dX3_work_19 ?_
    refine lv_iconst (v := 0) hx hb dX3_work_20 (by decide) ?_
    refine mmax hx hb (by rw [hml]; exact hl.1.symm) hown (hts _ wm_29_16) hts (by decide) (Nat.le_of_ble_eq_true rfl) dX3_work_21 ?_
    refine lv_istore_n (lv' := [(3, .int (jmax (L.2.1 4 a1.toNatClampNeg) 0)), (2, .int 0), (0, .ref (adL 0)), (1, .int a1)]) hx hb dX3_work_24 rfl hl (by decide) rfl (fun ls hl => ?_)
    exact L25 a1 N 0 (jmax (L.2.1 4 a1.toNatClampNeg) 0) L _ _ _ h hP hD hS (lv_sub hl [2, 3, 1, 0] rfl)
  · replace h := (br h).1 c9
    refine lv_ldc2 (v := (-9223372036854775808)) hx hb hown (hts _ wm_29_15) dX3_work_8 ?_
    exact retL (fr := fun q => q.1) (fw := fun q => wj [cX3 cy adL q.2]) h hx hb hr hlocks hK hP hD hS dX3_work_11
theorem hds_X6_hasParty : yX6_hasParty.cls ≠ "java/lang/invoke/MethodHandle" ∧ yX6_hasParty.cls ≠ "java/lang/invoke/VarHandle" ∧ (parseMethodDescriptor yX6_hasParty.desc).map (fun d => d.parameters.length) = some 1 := ⟨by decide +kernel, by decide +kernel, by decide +kernel⟩
theorem hd_X6_hasParty : yX6_hasParty.cls = RX6 ∧ yX6_hasParty.cls ≠ "java/lang/invoke/MethodHandle" ∧ yX6_hasParty.cls ≠ "java/lang/invoke/VarHandle" ∧ (parseMethodDescriptor yX6_hasParty.desc).map (fun d => d.parameters.length) = some 1 := ⟨rfl, hds_X6_hasParty⟩
def f_X6_hasParty (P : VV) (a1 : Int32) : Option (Int32) :=
  if a1 < 0 then some 0 else if P.1 0 ≤ a1 then some 0 else some 1
set_option maxHeartbeats 4000000 in
set_option maxRecDepth 100000 in
theorem k_X6_hasParty (l : Launch) (G : va_G) (cy : Nat → ClassId) (ev : Nat → Nat) (adP : Nat → Nat) (rL : Nat) (P : VV) (a1 : Int32) (res : Int32) (h : f_X6_hasParty P a1 = some res) : MetI l yX6_hasParty cX6_hasParty 2 (some .boolean) 0 0 G cy ev [.ref (adP 0), .int a1] (wj [cX6 cy adP rL P]) res (wj [cX6 cy adP rL P]) := by
  refine MetQ.start (by decide +kernel) (Nat.le_of_ble_eq_true rfl) (fun p e s m args below meth c A ls hx hb hr hml hown hts hlocks hK hP hD hA hl hE => ?_)
  have hS : va_S A s.heap s.heap [] := va_S.rf
  have hown : s.vm.findClass RX6 = some m.cls := hown
  have hl : lv_has ls 2 [(0, .ref (adP 0)), (1, .int a1)] := hl
  delta f_X6_hasParty at h
  refine lv_iload_n hx hb dX6_hasParty_0 rfl (lv_at hl 1 rfl) ?_
  refine lv_if_lt (tgt := 16) hx hb dX6_hasParty_1 (by decide) (fun c9 => ?_) (fun c9 => ?_)
  · replace h := (br h).1 c9
    refine lv_iconst (v := 0) hx hb dX6_hasParty_16 (by decide) ?_
    exact retZ (fr := fun q => q) (fw := fun _ => wj [cX6 cy adP rL P]) h hx hb hr narZ0 hlocks hK hP hD hS dX6_hasParty_17
  · replace h := (br h).2 c9
    refine lv_iload_n hx hb dX6_hasParty_4 rfl (lv_at hl 1 rfl) ?_
    refine lv_aload_n hx hb dX6_hasParty_5 rfl (lv_at hl 0 rfl) ?_
    refine go_6_9 (ci := 0) (x := P.1 0) hx hb hts hown hK hE hP rfl rfl dX6_hasParty_6 ?_
    refine lv_icmp_ge (tgt := 16) hx hb dX6_hasParty_9 (by decide) (fun c9 => ?_) (fun c9 => ?_)
    · replace h := (br h).1 c9
      refine lv_iconst (v := 0) hx hb dX6_hasParty_16 (by decide) ?_
      exact retZ (fr := fun q => q) (fw := fun _ => wj [cX6 cy adP rL P]) h hx hb hr narZ0 hlocks hK hP hD hS dX6_hasParty_17
    · replace h := (br h).2 c9
      refine lv_iconst (v := 1) hx hb dX6_hasParty_12 (by decide) ?_
      refine lv_goto (tgt := 17) hx hb dX6_hasParty_13 (by decide) ?_
      exact retZ (fr := fun q => q) (fw := fun _ => wj [cX6 cy adP rL P]) h hx hb hr narZ1 hlocks hK hP hD hS dX6_hasParty_17
theorem hds_X6_hasSitting : yX6_hasSitting.cls ≠ "java/lang/invoke/MethodHandle" ∧ yX6_hasSitting.cls ≠ "java/lang/invoke/VarHandle" ∧ (parseMethodDescriptor yX6_hasSitting.desc).map (fun d => d.parameters.length) = some 1 := ⟨by decide +kernel, by decide +kernel, by decide +kernel⟩
theorem hd_X6_hasSitting : yX6_hasSitting.cls = RX6 ∧ yX6_hasSitting.cls ≠ "java/lang/invoke/MethodHandle" ∧ yX6_hasSitting.cls ≠ "java/lang/invoke/VarHandle" ∧ (parseMethodDescriptor yX6_hasSitting.desc).map (fun d => d.parameters.length) = some 1 := ⟨rfl, hds_X6_hasSitting⟩
def f_X6_hasSitting (P : VV) (a1 : Int32) : Option (Int32) :=
  if a1 < 0 then some 0 else if P.1 3 ≤ a1 then some 0 else some 1
set_option maxHeartbeats 4000000 in
set_option maxRecDepth 100000 in
theorem k_X6_hasSitting (l : Launch) (G : va_G) (cy : Nat → ClassId) (ev : Nat → Nat) (adP : Nat → Nat) (rL : Nat) (P : VV) (a1 : Int32) (res : Int32) (h : f_X6_hasSitting P a1 = some res) : MetI l yX6_hasSitting cX6_hasSitting 2 (some .boolean) 0 0 G cy ev [.ref (adP 0), .int a1] (wj [cX6 cy adP rL P]) res (wj [cX6 cy adP rL P]) := by
  refine MetQ.start (by decide +kernel) (Nat.le_of_ble_eq_true rfl) (fun p e s m args below meth c A ls hx hb hr hml hown hts hlocks hK hP hD hA hl hE => ?_)
  have hS : va_S A s.heap s.heap [] := va_S.rf
  have hown : s.vm.findClass RX6 = some m.cls := hown
  have hl : lv_has ls 2 [(0, .ref (adP 0)), (1, .int a1)] := hl
  delta f_X6_hasSitting at h
  refine lv_iload_n hx hb dX6_hasSitting_0 rfl (lv_at hl 1 rfl) ?_
  refine lv_if_lt (tgt := 16) hx hb dX6_hasSitting_1 (by decide) (fun c9 => ?_) (fun c9 => ?_)
  · replace h := (br h).1 c9
    refine lv_iconst (v := 0) hx hb dX6_hasSitting_16 (by decide) ?_
    exact retZ (fr := fun q => q) (fw := fun _ => wj [cX6 cy adP rL P]) h hx hb hr narZ0 hlocks hK hP hD hS dX6_hasSitting_17
  · replace h := (br h).2 c9
    refine lv_iload_n hx hb dX6_hasSitting_4 rfl (lv_at hl 1 rfl) ?_
    refine lv_aload_n hx hb dX6_hasSitting_5 rfl (lv_at hl 0 rfl) ?_
    refine go_6_24 (ci := 0) (x := P.1 3) hx hb hts hown hK hE hP rfl rfl dX6_hasSitting_6 ?_
    refine lv_icmp_ge (tgt := 16) hx hb dX6_hasSitting_9 (by decide) (fun c9 => ?_) (fun c9 => ?_)
    · replace h := (br h).1 c9
      refine lv_iconst (v := 0) hx hb dX6_hasSitting_16 (by decide) ?_
      exact retZ (fr := fun q => q) (fw := fun _ => wj [cX6 cy adP rL P]) h hx hb hr narZ0 hlocks hK hP hD hS dX6_hasSitting_17
    · replace h := (br h).2 c9
      refine lv_iconst (v := 1) hx hb dX6_hasSitting_12 (by decide) ?_
      refine lv_goto (tgt := 17) hx hb dX6_hasSitting_13 (by decide) ?_
      exact retZ (fr := fun q => q) (fw := fun _ => wj [cX6 cy adP rL P]) h hx hb hr narZ1 hlocks hK hP hD hS dX6_hasSitting_17
theorem hds_X6_numberOf : yX6_numberOf.cls ≠ "java/lang/invoke/MethodHandle" ∧ yX6_numberOf.cls ≠ "java/lang/invoke/VarHandle" ∧ (parseMethodDescriptor yX6_numberOf.desc).map (fun d => d.parameters.length) = some 1 := ⟨by decide +kernel, by decide +kernel, by decide +kernel⟩
theorem hd_X6_numberOf : yX6_numberOf.cls = RX6 ∧ yX6_numberOf.cls ≠ "java/lang/invoke/MethodHandle" ∧ yX6_numberOf.cls ≠ "java/lang/invoke/VarHandle" ∧ (parseMethodDescriptor yX6_numberOf.desc).map (fun d => d.parameters.length) = some 1 := ⟨rfl, hds_X6_numberOf⟩
def f_X6_numberOf_s2 (N : Nat) (P : VV) (x1 : Int32) (x2 : Int32) : Option (((Int32) ⊕ (Int32))) :=
  if P.1 0 ≤ x2 then inrO (some ((-1))) else gin x2 8 (if P.2.1 1 x2.toNatClampNeg = x1 then inrO (some x2) else some (.inl (x2 + 1)))
def f_X6_numberOf (N : Nat) (P : VV) (a1 : Int32) : Option (Int32) :=
  itr (fun q : Int32 => f_X6_numberOf_s2 N P a1 q) N 0
set_option maxHeartbeats 4000000 in
set_option maxRecDepth 100000 in
theorem k_X6_numberOf (l : Launch) (G : va_G) (cy : Nat → ClassId) (ev : Nat → Nat) (N : Nat) (adP : Nat → Nat) (rL : Nat) (P : VV) (a1 : Int32) (res : Int32) (h : f_X6_numberOf N P a1 = some res) : MetI l yX6_numberOf cX6_numberOf 3 (some .int) 0 0 G cy ev [.ref (adP 0), .int a1] (wj [cX6 cy adP rL P]) res (wj [cX6 cy adP rL P]) := by
  refine MetQ.start (by decide +kernel) (Nat.le_of_ble_eq_true rfl) (fun p e s m args below meth c A ls hx hb hr hml hown hts hlocks hK hP hD hA hl hE => ?_)
  have hS : va_S A s.heap s.heap [] := va_S.rf
  have hown : s.vm.findClass RX6 = some m.cls := hown
  have hl : lv_has ls 3 [(0, .ref (adP 0)), (1, .int a1)] := hl
  have L2 : ∀ (x1 : Int32) (n : Nat) (x2 : Int32) (H : Heap) (locs : List Loc) (ls : Array Slot), itr (fun q : Int32 => f_X6_numberOf_s2 N P x1 q) n x2 = some res → va_P G vwCl (wj [cX6 cy adP rL P]) H → va_D A (wj [cX6 cy adP rL P]) → va_S A s.heap H locs → lv_has ls 3 [(0, .ref (adP 0)), (1, .int x1), (2, .int x2)] → W p l e (rmX 0 0) s m args below meth c H locs 0 0 (MQ below (mQi (res) G cy A (wj [cX6 cy adP rL P])) args s 0 0 A) (F0 m 2 ls []) := by
    intro x1 n
    induction n with
    | zero => intro x2 H locs ls h; exact (itr_zero h).elim
    | succ n ih1 =>
      intro x2 H locs ls h hP hD hS hl
      obtain ⟨y1, h, hy1⟩ := itr_inv h
      have h : f_X6_numberOf_s2 N P x1 x2 = some y1 := h
      delta f_X6_numberOf_s2 at h
      refine lv_iload_n hx hb dX6_numberOf_2 rfl (lv_at hl 2 rfl) ?_
      refine lv_aload_n hx hb dX6_numberOf_3 rfl (lv_at hl 0 rfl) ?_
      refine go_6_9 (ci := 0) (x := P.1 0) hx hb hts hown hK hE hP rfl rfl dX6_numberOf_4 ?_
      refine lv_icmp_ge (tgt := 28) hx hb dX6_numberOf_7 (by decide) (fun c9 => ?_) (fun c9 => ?_)
      · replace h := (br h).1 c9
        replace h := itr_exit h hy1
        refine lv_iconst (v := (-1)) hx hb dX6_numberOf_28 (by decide) ?_
        exact retI (fr := fun q => q) (fw := fun _ => wj [cX6 cy adP rL P]) h hx hb hr hlocks hK hP hD hS dX6_numberOf_29
      · replace h := (br h).2 c9
        refine lv_aload_n hx hb dX6_numberOf_10 rfl (lv_at hl 0 rfl) ?_
        refine go_6_15 (ci := 0) hx hb hts hown hK hE hP rfl dX6_numberOf_11 ?_
        refine lv_iload_n hx hb dX6_numberOf_14 rfl (lv_at hl 2 rfl) ?_
        replace h := gin_inv h
        obtain ⟨h9, h⟩ := h
        refine ldWI (ci := 0) (k0 := 1) (g := P.2.1 1) (j := x2.toNatClampNeg) hx hb hK hP rfl cX6_a1 rfl h9 rfl dX6_numberOf_15 ?_
        refine lv_iload_n hx hb dX6_numberOf_16 rfl (lv_at hl 1 rfl) ?_
        refine lv_icmp_ne (tgt := 22) hx hb dX6_numberOf_17 (by decide) (fun c9 => ?_) (fun c9 => ?_)
        · replace h := (br h).2 c9
          refine lv_iinc (v := x2 + 1) (lv' := [(2, .int (x2 + 1)), (0, .ref (adP 0)), (1, .int x1)]) hx hb dX6_numberOf_22 hl (k := 2) rfl rfl (by decide) rfl (fun ls hl => ?_)
          refine lv_goto (tgt := 2) hx hb dX6_numberOf_25 (by decide) ?_
          replace h := itr_back h hy1
          exact ih1 (x2 + 1) _ _ _ h hP hD hS (lv_sub hl [1, 2, 0] rfl)
        · replace h := (br h).1 c9
          replace h := itr_exit h hy1
          refine lv_iload_n hx hb dX6_numberOf_20 rfl (lv_at hl 2 rfl) ?_
          exact retI (fr := fun q => q) (fw := fun _ => wj [cX6 cy adP rL P]) h hx hb hr hlocks hK hP hD hS dX6_numberOf_21
  delta f_X6_numberOf at h
  refine lv_iconst (v := 0) hx hb dX6_numberOf_0 (by decide) ?_
  refine lv_istore_n (lv' := [(2, .int 0), (0, .ref (adP 0)), (1, .int a1)]) hx hb dX6_numberOf_1 rfl hl (by decide) rfl (fun ls hl => ?_)
  exact L2 a1 N 0 _ _ _ h hP hD hS (lv_sub hl [1, 2, 0] rfl)
theorem hds_X6_trait : yX6_trait.cls ≠ "java/lang/invoke/MethodHandle" ∧ yX6_trait.cls ≠ "java/lang/invoke/VarHandle" ∧ (parseMethodDescriptor yX6_trait.desc).map (fun d => d.parameters.length) = some 2 := ⟨by decide +kernel, by decide +kernel, by decide +kernel⟩
theorem hd_X6_trait : yX6_trait.cls = RX6 ∧ yX6_trait.cls ≠ "java/lang/invoke/MethodHandle" ∧ yX6_trait.cls ≠ "java/lang/invoke/VarHandle" ∧ (parseMethodDescriptor yX6_trait.desc).map (fun d => d.parameters.length) = some 2 := ⟨rfl, hds_X6_trait⟩
def f_X6_trait (P : VV) (a1 : Int32) (a2 : Int32) : Option (Int32) :=
  if a1 < 0 then some 0 else if P.1 0 ≤ a1 then some 0 else if a2 < 0 then some 0 else if (7 : Int32) ≤ a2 then some 0 else gin a1 8 (gin a2 7 (some (P.2.1 (100 + a1.toNatClampNeg) a2.toNatClampNeg)))
set_option maxHeartbeats 4000000 in
set_option maxRecDepth 100000 in
theorem k_X6_trait (l : Launch) (G : va_G) (cy : Nat → ClassId) (ev : Nat → Nat) (adP : Nat → Nat) (rL : Nat) (P : VV) (a1 : Int32) (a2 : Int32) (res : Int32) (h : f_X6_trait P a1 a2 = some res) : MetI l yX6_trait cX6_trait 3 (some .int) 0 0 G cy ev [.ref (adP 0), .int a1, .int a2] (wj [cX6 cy adP rL P]) res (wj [cX6 cy adP rL P]) := by
  refine MetQ.start (by decide +kernel) (Nat.le_of_ble_eq_true rfl) (fun p e s m args below meth c A ls hx hb hr hml hown hts hlocks hK hP hD hA hl hE => ?_)
  have hS : va_S A s.heap s.heap [] := va_S.rf
  have hown : s.vm.findClass RX6 = some m.cls := hown
  have hl : lv_has ls 3 [(0, .ref (adP 0)), (1, .int a1), (2, .int a2)] := hl
  delta f_X6_trait at h
  refine lv_iload_n hx hb dX6_trait_0 rfl (lv_at hl 1 rfl) ?_
  refine lv_if_lt (tgt := 33) hx hb dX6_trait_1 (by decide) (fun c9 => ?_) (fun c9 => ?_)
  · replace h := (br h).1 c9
    refine lv_iconst (v := 0) hx hb dX6_trait_33 (by decide) ?_
    exact retI (fr := fun q => q) (fw := fun _ => wj [cX6 cy adP rL P]) h hx hb hr hlocks hK hP hD hS dX6_trait_34
  · replace h := (br h).2 c9
    refine lv_iload_n hx hb dX6_trait_4 rfl (lv_at hl 1 rfl) ?_
    refine lv_aload_n hx hb dX6_trait_5 rfl (lv_at hl 0 rfl) ?_
    refine go_6_9 (ci := 0) (x := P.1 0) hx hb hts hown hK hE hP rfl rfl dX6_trait_6 ?_
    refine lv_icmp_ge (tgt := 33) hx hb dX6_trait_9 (by decide) (fun c9 => ?_) (fun c9 => ?_)
    · replace h := (br h).1 c9
      refine lv_iconst (v := 0) hx hb dX6_trait_33 (by decide) ?_
      exact retI (fr := fun q => q) (fw := fun _ => wj [cX6 cy adP rL P]) h hx hb hr hlocks hK hP hD hS dX6_trait_34
    · replace h := (br h).2 c9
      refine lv_iload_n hx hb dX6_trait_12 rfl (lv_at hl 2 rfl) ?_
      refine lv_if_lt (tgt := 33) hx hb dX6_trait_13 (by decide) (fun c9 => ?_) (fun c9 => ?_)
      · replace h := (br h).1 c9
        refine lv_iconst (v := 0) hx hb dX6_trait_33 (by decide) ?_
        exact retI (fr := fun q => q) (fw := fun _ => wj [cX6 cy adP rL P]) h hx hb hr hlocks hK hP hD hS dX6_trait_34
      · replace h := (br h).2 c9
        refine lv_iload_n hx hb dX6_trait_16 rfl (lv_at hl 2 rfl) ?_
        refine lv_bipush (v := 7) hx hb dX6_trait_17 (by decide) ?_
        refine lv_icmp_ge (tgt := 33) hx hb dX6_trait_19 (by decide) (fun c9 => ?_) (fun c9 => ?_)
        · replace h := (br h).1 c9
          refine lv_iconst (v := 0) hx hb dX6_trait_33 (by decide) ?_
          exact retI (fr := fun q => q) (fw := fun _ => wj [cX6 cy adP rL P]) h hx hb hr hlocks hK hP hD hS dX6_trait_34
        · replace h := (br h).2 c9
          refine lv_aload_n hx hb dX6_trait_22 rfl (lv_at hl 0 rfl) ?_
          refine go_6_21 (ci := 0) hx hb hts hown hK hE hP rfl dX6_trait_23 ?_
          refine lv_iload_n hx hb dX6_trait_26 rfl (lv_at hl 1 rfl) ?_
          replace h := gin_inv h
          obtain ⟨h9, h⟩ := h
          have hr1 := vin_nat h9
          refine aldA (ci := 0) (k0 := 2) (j := a1.toNatClampNeg) hx hb hK hP rfl cX6_a2 h9 rfl dX6_trait_27 ?_
          refine lv_iload_n hx hb dX6_trait_28 rfl (lv_at hl 2 rfl) ?_
          replace h := gin_inv h
          obtain ⟨h9, h⟩ := h
          refine ldWI (ci := 0) (k0 := 7 + a1.toNatClampNeg) (g := P.2.1 (100 + a1.toNatClampNeg)) (j := a2.toNatClampNeg) hx hb hK hP rfl (cX6_row hr1) rfl h9 rfl dX6_trait_29 ?_
          refine lv_goto (tgt := 34) hx hb dX6_trait_30 (by decide) ?_
          exact retI (fr := fun q => q) (fw := fun _ => wj [cX6 cy adP rL P]) h hx hb hr hlocks hK hP hD hS dX6_trait_34
theorem hds_X6_mostTickets : yX6_mostTickets.cls ≠ "java/lang/invoke/MethodHandle" ∧ yX6_mostTickets.cls ≠ "java/lang/invoke/VarHandle" ∧ (parseMethodDescriptor yX6_mostTickets.desc).map (fun d => d.parameters.length) = some 0 := ⟨by decide +kernel, by decide +kernel, by decide +kernel⟩
theorem hd_X6_mostTickets : yX6_mostTickets.cls = RX6 ∧ yX6_mostTickets.cls ≠ "java/lang/invoke/MethodHandle" ∧ yX6_mostTickets.cls ≠ "java/lang/invoke/VarHandle" ∧ (parseMethodDescriptor yX6_mostTickets.desc).map (fun d => d.parameters.length) = some 0 := ⟨rfl, hds_X6_mostTickets⟩
def f_X6_mostTickets (P : VV) : Option (Int32) :=
  some ((P.2.1 6 0) + (P.2.1 6 4))
set_option maxHeartbeats 4000000 in
set_option maxRecDepth 100000 in
theorem k_X6_mostTickets (l : Launch) (G : va_G) (cy : Nat → ClassId) (ev : Nat → Nat) (adP : Nat → Nat) (rL : Nat) (P : VV)  (res : Int32) (h : f_X6_mostTickets P = some res) : MetI l yX6_mostTickets cX6_mostTickets 1 (some .int) 0 0 G cy ev [.ref (adP 0)] (wj [cX6 cy adP rL P]) res (wj [cX6 cy adP rL P]) := by
  refine MetQ.start (by decide +kernel) (Nat.le_of_ble_eq_true rfl) (fun p e s m args below meth c A ls hx hb hr hml hown hts hlocks hK hP hD hA hl hE => ?_)
  have hS : va_S A s.heap s.heap [] := va_S.rf
  have hown : s.vm.findClass RX6 = some m.cls := hown
  have hl : lv_has ls 1 [(0, .ref (adP 0))] := hl
  delta f_X6_mostTickets at h
  refine lv_aload_n hx hb dX6_mostTickets_0 rfl (lv_at hl 0 rfl) ?_
  refine go_6_33 (ci := 0) hx hb hts hown hK hE hP rfl dX6_mostTickets_1 ?_
  refine lv_iconst (v := 0) hx hb dX6_mostTickets_4 (by decide) ?_
  refine ldWI (ci := 0) (k0 := 5) (g := P.2.1 6) (j := 0) hx hb hK hP rfl cX6_a6 rfl (vin_dec (by decide)) (by decide) dX6_mostTickets_5 ?_
  refine lv_aload_n hx hb dX6_mostTickets_6 rfl (lv_at hl 0 rfl) ?_
  refine go_6_33 (ci := 0) hx hb hts hown hK hE hP rfl dX6_mostTickets_7 ?_
  refine lv_iconst (v := 4) hx hb dX6_mostTickets_10 (by decide) ?_
  refine ldWI (ci := 0) (k0 := 5) (g := P.2.1 6) (j := 4) hx hb hK hP rfl cX6_a6 rfl (vin_dec (by decide)) (by decide) dX6_mostTickets_11 ?_
  refine lv_iadd hx hb dX6_mostTickets_12 ?_
  exact retI (fr := fun q => q) (fw := fun _ => wj [cX6 cy adP rL P]) h hx hb hr hlocks hK hP hD hS dX6_mostTickets_13
theorem hds_X6_persons : yX6_persons.cls ≠ "java/lang/invoke/MethodHandle" ∧ yX6_persons.cls ≠ "java/lang/invoke/VarHandle" ∧ (parseMethodDescriptor yX6_persons.desc).map (fun d => d.parameters.length) = some 0 := ⟨by decide +kernel, by decide +kernel, by decide +kernel⟩
theorem hd_X6_persons : yX6_persons.cls = RX6 ∧ yX6_persons.cls ≠ "java/lang/invoke/MethodHandle" ∧ yX6_persons.cls ≠ "java/lang/invoke/VarHandle" ∧ (parseMethodDescriptor yX6_persons.desc).map (fun d => d.parameters.length) = some 0 := ⟨rfl, hds_X6_persons⟩
def f_X6_persons_s4 (N : Nat) (P : VV) (x1 : Int32) (x2 : Int32) : Option (((Int32 × Int32) ⊕ (Int32))) :=
  if P.1 0 ≤ x2 then inrO (some x1) else gin x2 8 (some (.inl (x1 + (P.2.1 (100 + x2.toNatClampNeg) 0), x2 + 1)))
def f_X6_persons (N : Nat) (P : VV) : Option (Int32) :=
  itr (fun q : Int32 × Int32 => f_X6_persons_s4 N P q.1 q.2) N (0, 0)
set_option maxHeartbeats 4000000 in
set_option maxRecDepth 100000 in
theorem k_X6_persons (l : Launch) (G : va_G) (cy : Nat → ClassId) (ev : Nat → Nat) (N : Nat) (adP : Nat → Nat) (rL : Nat) (P : VV)  (res : Int32) (h : f_X6_persons N P = some res) : MetI l yX6_persons cX6_persons 3 (some .int) 0 0 G cy ev [.ref (adP 0)] (wj [cX6 cy adP rL P]) res (wj [cX6 cy adP rL P]) := by
  refine MetQ.start (by decide +kernel) (Nat.le_of_ble_eq_true rfl) (fun p e s m args below meth c A ls hx hb hr hml hown hts hlocks hK hP hD hA hl hE => ?_)
  have hS : va_S A s.heap s.heap [] := va_S.rf
  have hown : s.vm.findClass RX6 = some m.cls := hown
  have hl : lv_has ls 3 [(0, .ref (adP 0))] := hl
  have L4 : ∀ (n : Nat) (x1 : Int32) (x2 : Int32) (H : Heap) (locs : List Loc) (ls : Array Slot), itr (fun q : Int32 × Int32 => f_X6_persons_s4 N P q.1 q.2) n (x1, x2) = some res → va_P G vwCl (wj [cX6 cy adP rL P]) H → va_D A (wj [cX6 cy adP rL P]) → va_S A s.heap H locs → lv_has ls 3 [(0, .ref (adP 0)), (1, .int x1), (2, .int x2)] → W p l e (rmX 0 0) s m args below meth c H locs 0 0 (MQ below (mQi (res) G cy A (wj [cX6 cy adP rL P])) args s 0 0 A) (F0 m 4 ls []) := by
    intro n
    induction n with
    | zero => intro x1 x2 H locs ls h; exact (itr_zero h).elim
    | succ n ih1 =>
      intro x1 x2 H locs ls h hP hD hS hl
      obtain ⟨y1, h, hy1⟩ := itr_inv h
      have h : f_X6_persons_s4 N P x1 x2 = some y1 := h
      delta f_X6_persons_s4 at h
      refine lv_iload_n hx hb dX6_persons_4 rfl (lv_at hl 2 rfl) ?_
      refine lv_aload_n hx hb dX6_persons_5 rfl (lv_at hl 0 rfl) ?_
      refine go_6_9 (ci := 0) (x := P.1 0) hx hb hts hown hK hE hP rfl rfl dX6_persons_6 ?_
      refine lv_icmp_ge (tgt := 29) hx hb dX6_persons_9 (by decide) (fun c9 => ?_) (fun c9 => ?_)
      · replace h := (br h).1 c9
        replace h := itr_exit h hy1
        refine lv_iload_n hx hb dX6_persons_29 rfl (lv_at hl 1 rfl) ?_
        exact retI (fr := fun q => q) (fw := fun _ => wj [cX6 cy adP rL P]) h hx hb hr hlocks hK hP hD hS dX6_persons_30
      · replace h := (br h).2 c9
        refine lv_iload_n hx hb dX6_persons_12 rfl (lv_at hl 1 rfl) ?_
        refine lv_aload_n hx hb dX6_persons_13 rfl (lv_at hl 0 rfl) ?_
        refine go_6_21 (ci := 0) hx hb hts hown hK hE hP rfl dX6_persons_14 ?_
        refine lv_iload_n hx hb dX6_persons_17 rfl (lv_at hl 2 rfl) ?_
        replace h := gin_inv h
        obtain ⟨h9, h⟩ := h
        have hr401 := vin_nat h9
        refine aldA (ci := 0) (k0 := 2) (j := x2.toNatClampNeg) hx hb hK hP rfl cX6_a2 h9 rfl dX6_persons_18 ?_
        refine lv_iconst (v := 0) hx hb dX6_persons_19 (by decide) ?_
        refine ldWI (ci := 0) (k0 := 7 + x2.toNatClampNeg) (g := P.2.1 (100 + x2.toNatClampNeg)) (j := 0) hx hb hK hP rfl (cX6_row hr401) rfl (vin_dec (by decide)) (by decide) dX6_persons_20 ?_
        refine lv_iadd hx hb dX6_persons_21 ?_
        refine lv_istore_n (lv' := [(1, .int (x1 + (P.2.1 (100 + x2.toNatClampNeg) 0))), (0, .ref (adP 0)), (2, .int x2)]) hx hb dX6_persons_22 rfl hl (by decide) rfl (fun ls hl => ?_)
        refine lv_iinc (v := x2 + 1) (lv' := [(2, .int (x2 + 1)), (1, .int (x1 + (P.2.1 (100 + x2.toNatClampNeg) 0))), (0, .ref (adP 0))]) hx hb dX6_persons_23 hl (k := 2) rfl rfl (by decide) rfl (fun ls hl => ?_)
        refine lv_goto (tgt := 4) hx hb dX6_persons_26 (by decide) ?_
        replace h := itr_back h hy1
        exact ih1 (x1 + (P.2.1 (100 + x2.toNatClampNeg) 0)) (x2 + 1) _ _ _ h hP hD hS (lv_sub hl [2, 1, 0] rfl)
  delta f_X6_persons at h
  refine lv_iconst (v := 0) hx hb dX6_persons_0 (by decide) ?_
  refine lv_istore_n (lv' := [(1, .int 0), (0, .ref (adP 0))]) hx hb dX6_persons_1 rfl hl (by decide) rfl (fun ls hl => ?_)
  refine lv_iconst (v := 0) hx hb dX6_persons_2 (by decide) ?_
  refine lv_istore_n (lv' := [(2, .int 0), (1, .int 0), (0, .ref (adP 0))]) hx hb dX6_persons_3 rfl hl (by decide) rfl (fun ls hl => ?_)
  exact L4  N 0 0 _ _ _ h hP hD hS (lv_sub hl [2, 1, 0] rfl)
theorem hds_X6_chosen : yX6_chosen.cls ≠ "java/lang/invoke/MethodHandle" ∧ yX6_chosen.cls ≠ "java/lang/invoke/VarHandle" ∧ (parseMethodDescriptor yX6_chosen.desc).map (fun d => d.parameters.length) = some 2 := ⟨by decide +kernel, by decide +kernel, by decide +kernel⟩
theorem hd_X6_chosen : yX6_chosen.cls = RX6 ∧ yX6_chosen.cls ≠ "java/lang/invoke/MethodHandle" ∧ yX6_chosen.cls ≠ "java/lang/invoke/VarHandle" ∧ (parseMethodDescriptor yX6_chosen.desc).map (fun d => d.parameters.length) = some 2 := ⟨rfl, hds_X6_chosen⟩
def f_X6_chosen_S_b54 (N : Nat) (P : VV) (S : VV) (x1 : Int32) (x3 : Int32) (x4 : Int32) (x5 : Int32) : Option (((Int32 × Int32 × Int32) ⊕ (Int32))) :=
  some (.inl (x3, x4, x5 + 1))
def f_X6_chosen_S_s8 (N : Nat) (P : VV) (S : VV) (x1 : Int32) (x3 : Int32) (x4 : Int32) (x5 : Int32) : Option (((Int32 × Int32 × Int32) ⊕ (Int32))) :=
  if P.1 3 ≤ x5 then inrO (some x3) else if (3 : Int32) ≤ x5 then inrO (some x3) else bnd (f_X6_trait P x1 (1 + x5)) (fun q801 => gin x5 3 (if q801 - (S.2.1 4 x5.toNatClampNeg) ≤ x4 then f_X6_chosen_S_b54 N P S x1 x3 x4 x5 else f_X6_chosen_S_b54 N P S x1 x5 (q801 - (S.2.1 4 x5.toNatClampNeg)) x5))
def f_X6_chosen_S (N : Nat) (P : VV) (S : VV) (a1 : Int32) : Option (Int32) :=
  itr (fun q : Int32 × Int32 × Int32 => f_X6_chosen_S_s8 N P S a1 q.1 q.2.1 q.2.2) N ((-1), (-1), 0)
set_option maxHeartbeats 4000000 in
set_option maxRecDepth 100000 in
theorem k_X6_chosen_S (l : Launch) (G : va_G) (cy : Nat → ClassId) (ev : Nat → Nat) (N : Nat) (adP : Nat → Nat) (rL : Nat) (P : VV) (adS : Nat → Nat) (S : VV) (a1 : Int32) (res : Int32) (h : f_X6_chosen_S N P S a1 = some res) : MetI l yX6_chosen cX6_chosen 7 (some .int) 1 22 G cy ev [.ref (adP 0), .int a1, .ref (adS 5)] (wj [cX6 cy adP rL P, cX8 cy adS S]) res (wj [cX6 cy adP rL P, cX8 cy adS S]) := by
  refine MetQ.start (by decide +kernel) (Nat.le_of_ble_eq_true rfl) (fun p e s m args below meth c A ls hx hb hr hml hown hts hlocks hK hP hD hA hl hE => ?_)
  have hS : va_S A s.heap s.heap [] := va_S.rf
  have hown : s.vm.findClass RX6 = some m.cls := hown
  have hl : lv_has ls 7 [(0, .ref (adP 0)), (1, .int a1), (2, .ref (adS 5))] := hl
  have L8 : ∀ (x1 : Int32) (n : Nat) (x3 : Int32) (x4 : Int32) (x5 : Int32) (H : Heap) (locs : List Loc) (ls : Array Slot), itr (fun q : Int32 × Int32 × Int32 => f_X6_chosen_S_s8 N P S x1 q.1 q.2.1 q.2.2) n (x3, x4, x5) = some res → va_P G vwCl (wj [cX6 cy adP rL P, cX8 cy adS S]) H → va_D A (wj [cX6 cy adP rL P, cX8 cy adS S]) → va_S A s.heap H locs → lv_has ls 7 [(0, .ref (adP 0)), (1, .int x1), (2, .ref (adS 5)), (3, .int x3), (4, .int x4), (5, .int x5)] → W p l e (rmX 1 22) s m args below meth c H locs 0 0 (MQ below (mQi (res) G cy A (wj [cX6 cy adP rL P, cX8 cy adS S])) args s 0 0 A) (F0 m 8 ls []) := by
    intro x1 n
    induction n with
    | zero => intro x3 x4 x5 H locs ls h; exact (itr_zero h).elim
    | succ n ih1 =>
      intro x3 x4 x5 H locs ls h hP hD hS hl
      obtain ⟨y1, h, hy1⟩ := itr_inv h
      have h : f_X6_chosen_S_s8 N P S x1 x3 x4 x5 = some y1 := h
      have B54 : ∀ (x3 : Int32) (x4 : Int32) (x5 : Int32) (H : Heap) (locs : List Loc) (ls : Array Slot), f_X6_chosen_S_b54 N P S x1 x3 x4 x5 = some y1 → va_P G vwCl (wj [cX6 cy adP rL P, cX8 cy adS S]) H → va_D A (wj [cX6 cy adP rL P, cX8 cy adS S]) → va_S A s.heap H locs → lv_has ls 7 [(0, .ref (adP 0)), (1, .int x1), (2, .ref (adS 5)), (3, .int x3), (4, .int x4), (5, .int x5)] → W p l e (rmX 1 22) s m args below meth c H locs 0 0 (MQ below (mQi (res) G cy A (wj [cX6 cy adP rL P, cX8 cy adS S])) args s 0 0 A) (F0 m 54 ls []) := by
        intro x3 x4 x5 H locs ls h hP hD hS hl
        delta f_X6_chosen_S_b54 at h
        refine lv_iinc (v := x5 + 1) (lv' := [(5, .int (x5 + 1)), (0, .ref (adP 0)), (1, .int x1), (2, .ref (adS 5)), (3, .int x3), (4, .int x4)]) hx hb dX6_chosen_54 hl (k := 5) rfl rfl (by decide) rfl (fun ls hl => ?_)
        refine lv_goto (tgt := 8) hx hb dX6_chosen_57 (by decide) ?_
        replace h := itr_back h hy1
        exact ih1 x3 x4 (x5 + 1) _ _ _ h hP hD hS (lv_sub hl [1, 2, 3, 4, 5, 0] rfl)
      delta f_X6_chosen_S_s8 at h
      refine lv_iload hx hb dX6_chosen_8 (lv_at hl 5 rfl) ?_
      refine lv_aload_n hx hb dX6_chosen_10 rfl (lv_at hl 0 rfl) ?_
      refine go_6_24 (ci := 0) (x := P.1 3) hx hb hts hown hK hE hP rfl rfl dX6_chosen_11 ?_
      refine lv_icmp_ge (tgt := 60) hx hb dX6_chosen_14 (by decide) (fun c9 => ?_) (fun c9 => ?_)
      · replace h := (br h).1 c9
        replace h := itr_exit h hy1
        refine lv_iload_n hx hb dX6_chosen_60 rfl (lv_at hl 3 rfl) ?_
        exact retI (fr := fun q => q) (fw := fun _ => wj [cX6 cy adP rL P, cX8 cy adS S]) h hx hb hr hlocks hK hP hD hS dX6_chosen_61
      · replace h := (br h).2 c9
        refine lv_iload hx hb dX6_chosen_17 (lv_at hl 5 rfl) ?_
        refine lv_aload_n hx hb dX6_chosen_19 rfl (lv_at hl 2 rfl) ?_
        refine alW (v := 3) (tk := 1) (ci := 1) (k0 := 3) hx hb hK hP rfl cX8_a4 rfl (by decide) dX6_chosen_20 ?_
        refine lv_icmp_ge (tgt := 60) hx hb dX6_chosen_21 (by decide) (fun c9 => ?_) (fun c9 => ?_)
        · replace h := (br h).1 c9
          replace h := itr_exit h hy1
          refine lv_iload_n hx hb dX6_chosen_60 rfl (lv_at hl 3 rfl) ?_
          exact retI (fr := fun q => q) (fw := fun _ => wj [cX6 cy adP rL P, cX8 cy adS S]) h hx hb hr hlocks hK hP hD hS dX6_chosen_61
        · replace h := (br h).2 c9
          refine lv_aload_n hx hb dX6_chosen_24 rfl (lv_at hl 0 rfl) ?_
          refine lv_iload_n hx hb dX6_chosen_25 rfl (lv_at hl 1 rfl) ?_
          refine lv_iconst (v := 1) hx hb dX6_chosen_26 (by decide) ?_
          refine lv_iload hx hb dX6_chosen_27 (lv_at hl 5 rfl) ?_
          refine lv_iadd hx hb dX6_chosen_29 ?_
          replace h := bd h
          obtain ⟨q801, h802, h⟩ := h
          refine callWVi (As := [.int x1, .int (1 + x5)]) (rest := []) (cs' := [cX6 cy adP rL P, cX8 cy adS S]) (isC := [0]) (isR := [1]) hx hb hml hown hts (k_X6_trait l G cy ev adP rL P x1 (1 + x5) q801 h802) wm_40_4 wm_26_16 wm_26_17 wm_1_22 wm_26_18 hd_X6_trait ⟨by decide, by decide⟩ hK hP hD hS hA hE rfl rfl rfl (cov_of (n := 2) rfl (by decide)) (by decide) rfl (recvW (ci := 0) hK hP rfl cX6_o rfl) rfl rfl hl.1 (Nat.le_of_ble_eq_true rfl) dX6_chosen_30 (fun H locs hP hD hS => ?_)
          refine lv_aload_n hx hb dX6_chosen_33 rfl (lv_at hl 2 rfl) ?_
          refine lv_iload hx hb dX6_chosen_34 (lv_at hl 5 rfl) ?_
          replace h := gin_inv h
          obtain ⟨h9, h⟩ := h
          refine ldWI (ci := 1) (k0 := 3) (g := S.2.1 4) (j := x5.toNatClampNeg) hx hb hK hP rfl cX8_a4 rfl h9 rfl dX6_chosen_36 ?_
          refine lv_isub hx hb dX6_chosen_37 ?_
          refine lv_istore (lv' := [(6, .int (q801 - (S.2.1 4 x5.toNatClampNeg))), (0, .ref (adP 0)), (1, .int x1), (2, .ref (adS 5)), (3, .int x3), (4, .int x4), (5, .int x5)]) hx hb dX6_chosen_38 hl (by decide) rfl (fun ls hl => ?_)
          refine lv_iload hx hb dX6_chosen_40 (lv_at hl 0 rfl) ?_
          refine lv_iload hx hb dX6_chosen_42 (lv_at hl 5 rfl) ?_
          refine lv_icmp_le (tgt := 54) hx hb dX6_chosen_44 (by decide) (fun c9 => ?_) (fun c9 => ?_)
          · replace h := (br h).1 c9
            exact B54 x3 x4 x5 _ _ _ h hP hD hS (lv_sub hl [1, 2, 3, 4, 5, 6] rfl)
          · replace h := (br h).2 c9
            refine lv_iload hx hb dX6_chosen_47 (lv_at hl 0 rfl) ?_
            refine lv_istore (lv' := [(4, .int (q801 - (S.2.1 4 x5.toNatClampNeg))), (6, .int (q801 - (S.2.1 4 x5.toNatClampNeg))), (0, .ref (adP 0)), (1, .int x1), (2, .ref (adS 5)), (3, .int x3), (5, .int x5)]) hx hb dX6_chosen_49 hl (by decide) rfl (fun ls hl => ?_)
            refine lv_iload hx hb dX6_chosen_51 (lv_at hl 6 rfl) ?_
            refine lv_istore_n (lv' := [(3, .int x5), (4, .int (q801 - (S.2.1 4 x5.toNatClampNeg))), (6, .int (q801 - (S.2.1 4 x5.toNatClampNeg))), (0, .ref (adP 0)), (1, .int x1), (2, .ref (adS 5)), (5, .int x5)]) hx hb dX6_chosen_53 rfl hl (by decide) rfl (fun ls hl => ?_)
            exact B54 x5 (q801 - (S.2.1 4 x5.toNatClampNeg)) x5 _ _ _ h hP hD hS (lv_sub hl [3, 4, 5, 0, 1, 6] rfl)
  delta f_X6_chosen_S at h
  refine lv_iconst (v := (-1)) hx hb dX6_chosen_0 (by decide) ?_
  refine lv_istore_n (lv' := [(3, .int ((-1))), (0, .ref (adP 0)), (1, .int a1), (2, .ref (adS 5))]) hx hb dX6_chosen_1 rfl hl (by decide) rfl (fun ls hl => ?_)
  refine lv_iconst (v := (-1)) hx hb dX6_chosen_2 (by decide) ?_
  refine lv_istore (lv' := [(4, .int ((-1))), (3, .int ((-1))), (0, .ref (adP 0)), (1, .int a1), (2, .ref (adS 5))]) hx hb dX6_chosen_3 hl (by decide) rfl (fun ls hl => ?_)
  refine lv_iconst (v := 0) hx hb dX6_chosen_5 (by decide) ?_
  refine lv_istore (lv' := [(5, .int 0), (4, .int ((-1))), (3, .int ((-1))), (0, .ref (adP 0)), (1, .int a1), (2, .ref (adS 5))]) hx hb dX6_chosen_6 hl (by decide) rfl (fun ls hl => ?_)
  exact L8 a1 N ((-1)) ((-1)) 0 _ _ _ h hP hD hS (lv_sub hl [3, 4, 5, 2, 1, 0] rfl)
def f_X6_chosen_L_b54 (N : Nat) (P : VV) (E : VV) (x1 : Int32) (x3 : Int32) (x4 : Int32) (x5 : Int32) : Option (((Int32 × Int32 × Int32) ⊕ (Int32))) :=
  some (.inl (x3, x4, x5 + 1))
def f_X6_chosen_L_s8 (N : Nat) (P : VV) (E : VV) (x1 : Int32) (x3 : Int32) (x4 : Int32) (x5 : Int32) : Option (((Int32 × Int32 × Int32) ⊕ (Int32))) :=
  if P.1 3 ≤ x5 then inrO (some x3) else if (3 : Int32) ≤ x5 then inrO (some x3) else bnd (f_X6_trait P x1 (1 + x5)) (fun q801 => gin x5 3 (if q801 - (E.2.1 0 x5.toNatClampNeg) ≤ x4 then f_X6_chosen_L_b54 N P E x1 x3 x4 x5 else f_X6_chosen_L_b54 N P E x1 x5 (q801 - (E.2.1 0 x5.toNatClampNeg)) x5))
def f_X6_chosen_L (N : Nat) (P : VV) (E : VV) (a1 : Int32) : Option (Int32) :=
  itr (fun q : Int32 × Int32 × Int32 => f_X6_chosen_L_s8 N P E a1 q.1 q.2.1 q.2.2) N ((-1), (-1), 0)
set_option maxHeartbeats 4000000 in
set_option maxRecDepth 100000 in
theorem k_X6_chosen_L (l : Launch) (G : va_G) (cy : Nat → ClassId) (ev : Nat → Nat) (N : Nat) (adP : Nat → Nat) (rL : Nat) (P : VV) (adE : Nat → Nat) (E : VV) (a1 : Int32) (res : Int32) (h : f_X6_chosen_L N P E a1 = some res) : MetI l yX6_chosen cX6_chosen 7 (some .int) 1 22 G cy ev [.ref (adP 0), .int a1, .ref (adE 1)] (wj [cX6 cy adP rL P, cX4 cy adE E]) res (wj [cX6 cy adP rL P, cX4 cy adE E]) := by
  refine MetQ.start (by decide +kernel) (Nat.le_of_ble_eq_true rfl) (fun p e s m args below meth c A ls hx hb hr hml hown hts hlocks hK hP hD hA hl hE => ?_)
  have hS : va_S A s.heap s.heap [] := va_S.rf
  have hown : s.vm.findClass RX6 = some m.cls := hown
  have hl : lv_has ls 7 [(0, .ref (adP 0)), (1, .int a1), (2, .ref (adE 1))] := hl
  have L8 : ∀ (x1 : Int32) (n : Nat) (x3 : Int32) (x4 : Int32) (x5 : Int32) (H : Heap) (locs : List Loc) (ls : Array Slot), itr (fun q : Int32 × Int32 × Int32 => f_X6_chosen_L_s8 N P E x1 q.1 q.2.1 q.2.2) n (x3, x4, x5) = some res → va_P G vwCl (wj [cX6 cy adP rL P, cX4 cy adE E]) H → va_D A (wj [cX6 cy adP rL P, cX4 cy adE E]) → va_S A s.heap H locs → lv_has ls 7 [(0, .ref (adP 0)), (1, .int x1), (2, .ref (adE 1)), (3, .int x3), (4, .int x4), (5, .int x5)] → W p l e (rmX 1 22) s m args below meth c H locs 0 0 (MQ below (mQi (res) G cy A (wj [cX6 cy adP rL P, cX4 cy adE E])) args s 0 0 A) (F0 m 8 ls []) := by
    intro x1 n
    induction n with
    | zero => intro x3 x4 x5 H locs ls h; exact (itr_zero h).elim
    | succ n ih1 =>
      intro x3 x4 x5 H locs ls h hP hD hS hl
      obtain ⟨y1, h, hy1⟩ := itr_inv h
      have h : f_X6_chosen_L_s8 N P E x1 x3 x4 x5 = some y1 := h
      have B54 : ∀ (x3 : Int32) (x4 : Int32) (x5 : Int32) (H : Heap) (locs : List Loc) (ls : Array Slot), f_X6_chosen_L_b54 N P E x1 x3 x4 x5 = some y1 → va_P G vwCl (wj [cX6 cy adP rL P, cX4 cy adE E]) H → va_D A (wj [cX6 cy adP rL P, cX4 cy adE E]) → va_S A s.heap H locs → lv_has ls 7 [(0, .ref (adP 0)), (1, .int x1), (2, .ref (adE 1)), (3, .int x3), (4, .int x4), (5, .int x5)] → W p l e (rmX 1 22) s m args below meth c H locs 0 0 (MQ below (mQi (res) G cy A (wj [cX6 cy adP rL P, cX4 cy adE E])) args s 0 0 A) (F0 m 54 ls []) := by
        intro x3 x4 x5 H locs ls h hP hD hS hl
        delta f_X6_chosen_L_b54 at h
        refine lv_iinc (v := x5 + 1) (lv' := [(5, .int (x5 + 1)), (0, .ref (adP 0)), (1, .int x1), (2, .ref (adE 1)), (3, .int x3), (4, .int x4)]) hx hb dX6_chosen_54 hl (k := 5) rfl rfl (by decide) rfl (fun ls hl => ?_)
        refine lv_goto (tgt := 8) hx hb dX6_chosen_57 (by decide) ?_
        replace h := itr_back h hy1
        exact ih1 x3 x4 (x5 + 1) _ _ _ h hP hD hS (lv_sub hl [1, 2, 3, 4, 5, 0] rfl)
      delta f_X6_chosen_L_s8 at h
      refine lv_iload hx hb dX6_chosen_8 (lv_at hl 5 rfl) ?_
      refine lv_aload_n hx hb dX6_chosen_10 rfl (lv_at hl 0 rfl) ?_
      refine go_6_24 (ci := 0) (x := P.1 3) hx hb hts hown hK hE hP rfl rfl dX6_chosen_11 ?_
      refine lv_icmp_ge (tgt := 60) hx hb dX6_chosen_14 (by decide) (fun c9 => ?_) (fun c9 => ?_)
      · replace h := (br h).1 c9
        replace h := itr_exit h hy1
        refine lv_iload_n hx hb dX6_chosen_60 rfl (lv_at hl 3 rfl) ?_
        exact retI (fr := fun q => q) (fw := fun _ => wj [cX6 cy adP rL P, cX4 cy adE E]) h hx hb hr hlocks hK hP hD hS dX6_chosen_61
      · replace h := (br h).2 c9
        refine lv_iload hx hb dX6_chosen_17 (lv_at hl 5 rfl) ?_
        refine lv_aload_n hx hb dX6_chosen_19 rfl (lv_at hl 2 rfl) ?_
        refine alW (v := 3) (tk := 1) (ci := 1) (k0 := 1) hx hb hK hP rfl cX4_a0 rfl (by decide) dX6_chosen_20 ?_
        refine lv_icmp_ge (tgt := 60) hx hb dX6_chosen_21 (by decide) (fun c9 => ?_) (fun c9 => ?_)
        · replace h := (br h).1 c9
          replace h := itr_exit h hy1
          refine lv_iload_n hx hb dX6_chosen_60 rfl (lv_at hl 3 rfl) ?_
          exact retI (fr := fun q => q) (fw := fun _ => wj [cX6 cy adP rL P, cX4 cy adE E]) h hx hb hr hlocks hK hP hD hS dX6_chosen_61
        · replace h := (br h).2 c9
          refine lv_aload_n hx hb dX6_chosen_24 rfl (lv_at hl 0 rfl) ?_
          refine lv_iload_n hx hb dX6_chosen_25 rfl (lv_at hl 1 rfl) ?_
          refine lv_iconst (v := 1) hx hb dX6_chosen_26 (by decide) ?_
          refine lv_iload hx hb dX6_chosen_27 (lv_at hl 5 rfl) ?_
          refine lv_iadd hx hb dX6_chosen_29 ?_
          replace h := bd h
          obtain ⟨q801, h802, h⟩ := h
          refine callWVi (As := [.int x1, .int (1 + x5)]) (rest := []) (cs' := [cX6 cy adP rL P, cX4 cy adE E]) (isC := [0]) (isR := [1]) hx hb hml hown hts (k_X6_trait l G cy ev adP rL P x1 (1 + x5) q801 h802) wm_40_4 wm_26_16 wm_26_17 wm_1_22 wm_26_18 hd_X6_trait ⟨by decide, by decide⟩ hK hP hD hS hA hE rfl rfl rfl (cov_of (n := 2) rfl (by decide)) (by decide) rfl (recvW (ci := 0) hK hP rfl cX6_o rfl) rfl rfl hl.1 (Nat.le_of_ble_eq_true rfl) dX6_chosen_30 (fun H locs hP hD hS => ?_)
          refine lv_aload_n hx hb dX6_chosen_33 rfl (lv_at hl 2 rfl) ?_
          refine lv_iload hx hb dX6_chosen_34 (lv_at hl 5 rfl) ?_
          replace h := gin_inv h
          obtain ⟨h9, h⟩ := h
          refine ldWI (ci := 1) (k0 := 1) (g := E.2.1 0) (j := x5.toNatClampNeg) hx hb hK hP rfl cX4_a0 rfl h9 rfl dX6_chosen_36 ?_
          refine lv_isub hx hb dX6_chosen_37 ?_
          refine lv_istore (lv' := [(6, .int (q801 - (E.2.1 0 x5.toNatClampNeg))), (0, .ref (adP 0)), (1, .int x1), (2, .ref (adE 1)), (3, .int x3), (4, .int x4), (5, .int x5)]) hx hb dX6_chosen_38 hl (by decide) rfl (fun ls hl => ?_)
          refine lv_iload hx hb dX6_chosen_40 (lv_at hl 0 rfl) ?_
          refine lv_iload hx hb dX6_chosen_42 (lv_at hl 5 rfl) ?_
          refine lv_icmp_le (tgt := 54) hx hb dX6_chosen_44 (by decide) (fun c9 => ?_) (fun c9 => ?_)
          · replace h := (br h).1 c9
            exact B54 x3 x4 x5 _ _ _ h hP hD hS (lv_sub hl [1, 2, 3, 4, 5, 6] rfl)
          · replace h := (br h).2 c9
            refine lv_iload hx hb dX6_chosen_47 (lv_at hl 0 rfl) ?_
            refine lv_istore (lv' := [(4, .int (q801 - (E.2.1 0 x5.toNatClampNeg))), (6, .int (q801 - (E.2.1 0 x5.toNatClampNeg))), (0, .ref (adP 0)), (1, .int x1), (2, .ref (adE 1)), (3, .int x3), (5, .int x5)]) hx hb dX6_chosen_49 hl (by decide) rfl (fun ls hl => ?_)
            refine lv_iload hx hb dX6_chosen_51 (lv_at hl 6 rfl) ?_
            refine lv_istore_n (lv' := [(3, .int x5), (4, .int (q801 - (E.2.1 0 x5.toNatClampNeg))), (6, .int (q801 - (E.2.1 0 x5.toNatClampNeg))), (0, .ref (adP 0)), (1, .int x1), (2, .ref (adE 1)), (5, .int x5)]) hx hb dX6_chosen_53 rfl hl (by decide) rfl (fun ls hl => ?_)
            exact B54 x5 (q801 - (E.2.1 0 x5.toNatClampNeg)) x5 _ _ _ h hP hD hS (lv_sub hl [3, 4, 5, 0, 1, 6] rfl)
  delta f_X6_chosen_L at h
  refine lv_iconst (v := (-1)) hx hb dX6_chosen_0 (by decide) ?_
  refine lv_istore_n (lv' := [(3, .int ((-1))), (0, .ref (adP 0)), (1, .int a1), (2, .ref (adE 1))]) hx hb dX6_chosen_1 rfl hl (by decide) rfl (fun ls hl => ?_)
  refine lv_iconst (v := (-1)) hx hb dX6_chosen_2 (by decide) ?_
  refine lv_istore (lv' := [(4, .int ((-1))), (3, .int ((-1))), (0, .ref (adP 0)), (1, .int a1), (2, .ref (adE 1))]) hx hb dX6_chosen_3 hl (by decide) rfl (fun ls hl => ?_)
  refine lv_iconst (v := 0) hx hb dX6_chosen_5 (by decide) ?_
  refine lv_istore (lv' := [(5, .int 0), (4, .int ((-1))), (3, .int ((-1))), (0, .ref (adP 0)), (1, .int a1), (2, .ref (adE 1))]) hx hb dX6_chosen_6 hl (by decide) rfl (fun ls hl => ?_)
  exact L8 a1 N ((-1)) ((-1)) 0 _ _ _ h hP hD hS (lv_sub hl [3, 4, 5, 2, 1, 0] rfl)
theorem hds_X6_clear : yX6_clear.cls ≠ "java/lang/invoke/MethodHandle" ∧ yX6_clear.cls ≠ "java/lang/invoke/VarHandle" ∧ (parseMethodDescriptor yX6_clear.desc).map (fun d => d.parameters.length) = some 0 := ⟨by decide +kernel, by decide +kernel, by decide +kernel⟩
theorem hd_X6_clear : yX6_clear.cls = RX6 ∧ yX6_clear.cls ≠ "java/lang/invoke/MethodHandle" ∧ yX6_clear.cls ≠ "java/lang/invoke/VarHandle" ∧ (parseMethodDescriptor yX6_clear.desc).map (fun d => d.parameters.length) = some 0 := ⟨rfl, hds_X6_clear⟩
def f_X6_clear_s44 (N : Nat) (P : VV) (L : VV) (x1 : Int32) : Option (((Int32 × VV × VV) ⊕ (VV × VV))) :=
  if (3 : Int32) ≤ x1 then inrO (bnd (f_X3_clear N L) (fun q4401 => some (P, q4401))) else gin x1 3 (gin x1 3 (some (.inl (x1 + 1, sr (sr P 4 x1.toNatClampNeg 0) 5 x1.toNatClampNeg 0, L))))
def f_X6_clear_s12 (N : Nat) (P : VV) (L : VV) (x1 : Int32) : Option (((Int32 × VV × VV) ⊕ (VV × VV))) :=
  if (6 : Int32) ≤ x1 then inrO (itr (fun q : Int32 × VV × VV => f_X6_clear_s44 N q.2.1 q.2.2 q.1) N (0, P, L)) else gin x1 6 (gin x1 6 (gin x1 6 (some (.inl (x1 + 1, sr (sr P 6 x1.toNatClampNeg ((evC 4).getD x1.toNatClampNeg 0)) 7 x1.toNatClampNeg 0, L)))))
def f_X6_clear (N : Nat) (P : VV) (L : VV) : Option (VV × VV) :=
  itr (fun q : Int32 × VV × VV => f_X6_clear_s12 N q.2.1 q.2.2 q.1) N (0, si (si P 0 0) 3 0, L)
set_option maxHeartbeats 4000000 in
set_option maxRecDepth 100000 in
theorem k_X6_clear (l : Launch) (G : va_G) (cy : Nat → ClassId) (ev : Nat → Nat) (N : Nat) (adP : Nat → Nat) (P : VV) (adL : Nat → Nat) (L : VV)  (res : VV × VV) (h : f_X6_clear N P L = some res) : MetV l yX6_clear cX6_clear 2 none 1 21 G cy ev [.ref (adP 0)] (wj [cX6 cy adP (adL 0) P, cX3 cy adL L]) (wj [cX6 cy adP (adL 0) res.1, cX3 cy adL res.2]) := by
  refine MetQ.start (by decide +kernel) (Nat.le_of_ble_eq_true rfl) (fun p e s m args below meth c A ls hx hb hr hml hown hts hlocks hK hP hD hA hl hE => ?_)
  have hS : va_S A s.heap s.heap [] := va_S.rf
  have hown : s.vm.findClass RX6 = some m.cls := hown
  have hl : lv_has ls 2 [(0, .ref (adP 0))] := hl
  have L44 : ∀ (n : Nat) (x1 : Int32) (P : VV) (L : VV) (H : Heap) (locs : List Loc) (ls : Array Slot), itr (fun q : Int32 × VV × VV => f_X6_clear_s44 N q.2.1 q.2.2 q.1) n (x1, P, L) = some res → va_P G vwCl (wj [cX6 cy adP (adL 0) P, cX3 cy adL L]) H → va_D A (wj [cX6 cy adP (adL 0) P, cX3 cy adL L]) → va_S A s.heap H locs → lv_has ls 2 [(0, .ref (adP 0)), (1, .int x1)] → W p l e (rmX 1 21) s m args below meth c H locs 0 0 (MQ below (mQv G cy A (wj [cX6 cy adP (adL 0) res.1, cX3 cy adL res.2])) args s 0 0 A) (F0 m 44 ls []) := by
    intro n
    induction n with
    | zero => intro x1 P L H locs ls h; exact (itr_zero h).elim
    | succ n ih1 =>
      intro x1 P L H locs ls h hP hD hS hl
      obtain ⟨y1, h, hy1⟩ := itr_inv h
      have h : f_X6_clear_s44 N P L x1 = some y1 := h
      delta f_X6_clear_s44 at h
      refine lv_iload_n hx hb dX6_clear_44 rfl (lv_at hl 1 rfl) ?_
      refine lv_iconst (v := 3) hx hb dX6_clear_45 (by decide) ?_
      refine lv_icmp_ge (tgt := 69) hx hb dX6_clear_46 (by decide) (fun c9 => ?_) (fun c9 => ?_)
      · replace h := (br h).1 c9
        replace h := itr_exit h hy1
        refine lv_aload_n hx hb dX6_clear_69 rfl (lv_at hl 0 rfl) ?_
        refine go_6_43 (ci := 0) hx hb hts hown hK hE hP rfl dX6_clear_70 ?_
        replace h := bd h
        obtain ⟨q4401, h4402, h⟩ := h
        refine callWVv (As := []) (rest := []) (cs' := [cX6 cy adP (adL 0) P, cX3 cy adL q4401]) (isC := [1]) (isR := [0]) hx hb hml hown hts (k_X3_clear l G cy ev N adL L q4401 h4402) wm_16_11 wm_16_12 wm_16_13 wm_5_0 wm_16_14 hd_X3_clear ⟨by decide, by decide⟩ hK hP hD hS hA hE rfl rfl rfl (cov_of (n := 2) rfl (by decide)) (by decide) rfl (recvW (ci := 1) hK hP rfl cX3_o rfl) rfl rfl hl.1 (Nat.le_of_ble_eq_true rfl) dX6_clear_73 (fun H locs hP hD hS => ?_)
        exact retV (fw := fun q => wj [cX6 cy adP (adL 0) q.1, cX3 cy adL q.2]) h hx hb hr hlocks hK hP hD hS dX6_clear_76
      · replace h := (br h).2 c9
        refine lv_aload_n hx hb dX6_clear_49 rfl (lv_at hl 0 rfl) ?_
        refine go_6_27 (ci := 0) hx hb hts hown hK hE hP rfl dX6_clear_50 ?_
        refine lv_iload_n hx hb dX6_clear_53 rfl (lv_at hl 1 rfl) ?_
        refine lv_iconst (v := 0) hx hb dX6_clear_54 (by decide) ?_
        replace h := gin_inv h
        obtain ⟨h9, h⟩ := h
        refine stWI (ci := 0) (k0 := 3) (j := x1.toNatClampNeg) (cs' := [cX6 cy adP (adL 0) (sr P 4 x1.toNatClampNeg 0), cX3 cy adL L]) hx hb hK hP hD hS rfl cX6_a4 h9 rfl cX6_s4 rfl dX6_clear_55 (fun H locs hP hD hS => ?_)
        refine lv_aload_n hx hb dX6_clear_56 rfl (lv_at hl 0 rfl) ?_
        refine go_6_30 (ci := 0) hx hb hts hown hK hE hP rfl dX6_clear_57 ?_
        refine lv_iload_n hx hb dX6_clear_60 rfl (lv_at hl 1 rfl) ?_
        refine lv_iconst (v := 0) hx hb dX6_clear_61 (by decide) ?_
        replace h := gin_inv h
        obtain ⟨h9, h⟩ := h
        refine stWI (ci := 0) (k0 := 4) (j := x1.toNatClampNeg) (cs' := [cX6 cy adP (adL 0) (sr (sr P 4 x1.toNatClampNeg 0) 5 x1.toNatClampNeg 0), cX3 cy adL L]) hx hb hK hP hD hS rfl cX6_a5 h9 rfl cX6_s5 rfl dX6_clear_62 (fun H locs hP hD hS => ?_)
        refine lv_iinc (v := x1 + 1) (lv' := [(1, .int (x1 + 1)), (0, .ref (adP 0))]) hx hb dX6_clear_63 hl (k := 1) rfl rfl (by decide) rfl (fun ls hl => ?_)
        refine lv_goto (tgt := 44) hx hb dX6_clear_66 (by decide) ?_
        replace h := itr_back h hy1
        exact ih1 (x1 + 1) (sr (sr P 4 x1.toNatClampNeg 0) 5 x1.toNatClampNeg 0) L _ _ _ h hP hD hS (lv_sub hl [1, 0] rfl)
  have L12 : ∀ (n : Nat) (x1 : Int32) (P : VV) (L : VV) (H : Heap) (locs : List Loc) (ls : Array Slot), itr (fun q : Int32 × VV × VV => f_X6_clear_s12 N q.2.1 q.2.2 q.1) n (x1, P, L) = some res → va_P G vwCl (wj [cX6 cy adP (adL 0) P, cX3 cy adL L]) H → va_D A (wj [cX6 cy adP (adL 0) P, cX3 cy adL L]) → va_S A s.heap H locs → lv_has ls 2 [(0, .ref (adP 0)), (1, .int x1)] → W p l e (rmX 1 21) s m args below meth c H locs 0 0 (MQ below (mQv G cy A (wj [cX6 cy adP (adL 0) res.1, cX3 cy adL res.2])) args s 0 0 A) (F0 m 12 ls []) := by
    intro n
    induction n with
    | zero => intro x1 P L H locs ls h; exact (itr_zero h).elim
    | succ n ih1 =>
      intro x1 P L H locs ls h hP hD hS hl
      obtain ⟨y1, h, hy1⟩ := itr_inv h
      have h : f_X6_clear_s12 N P L x1 = some y1 := h
      delta f_X6_clear_s12 at h
      refine lv_iload_n hx hb dX6_clear_12 rfl (lv_at hl 1 rfl) ?_
      refine lv_bipush (v := 6) hx hb dX6_clear_13 (by decide) ?_
      refine lv_icmp_ge (tgt := 42) hx hb dX6_clear_15 (by decide) (fun c9 => ?_) (fun c9 => ?_)
      · replace h := (br h).1 c9
        replace h := itr_exit h hy1
        refine lv_iconst (v := 0) hx hb dX6_clear_42 (by decide) ?_
        refine lv_istore_n (lv' := [(1, .int 0), (0, .ref (adP 0))]) hx hb dX6_clear_43 rfl hl (by decide) rfl (fun ls hl => ?_)
        exact L44  N 0 P L _ _ _ h hP hD hS (lv_sub hl [1, 0] rfl)
      · replace h := (br h).2 c9
        refine lv_aload_n hx hb dX6_clear_18 rfl (lv_at hl 0 rfl) ?_
        refine go_6_33 (ci := 0) hx hb hts hown hK hE hP rfl dX6_clear_19 ?_
        refine lv_iload_n hx hb dX6_clear_22 rfl (lv_at hl 1 rfl) ?_
        refine va_getsN hx hb (hE.1 4 (by decide)).1 hS hown (ef_6_47 hE) (fun _ h9 => h9) dX6_clear_23 ?_
        refine lv_iload_n hx hb dX6_clear_26 rfl (lv_at hl 1 rfl) ?_
        replace h := gin_inv h
        obtain ⟨h9, h⟩ := h
        refine va_ti (v := .int ((evC 4).getD x1.toNatClampNeg 0)) hx hb (hE.1 4 (by decide)).2 hS h9 rfl dX6_clear_27 ?_
        replace h := gin_inv h
        obtain ⟨h9, h⟩ := h
        refine stWI (ci := 0) (k0 := 5) (j := x1.toNatClampNeg) (cs' := [cX6 cy adP (adL 0) (sr P 6 x1.toNatClampNeg ((evC 4).getD x1.toNatClampNeg 0)), cX3 cy adL L]) hx hb hK hP hD hS rfl cX6_a6 h9 rfl cX6_s6 rfl dX6_clear_28 (fun H locs hP hD hS => ?_)
        refine lv_aload_n hx hb dX6_clear_29 rfl (lv_at hl 0 rfl) ?_
        refine go_6_36 (ci := 0) hx hb hts hown hK hE hP rfl dX6_clear_30 ?_
        refine lv_iload_n hx hb dX6_clear_33 rfl (lv_at hl 1 rfl) ?_
        refine lv_iconst (v := 0) hx hb dX6_clear_34 (by decide) ?_
        replace h := gin_inv h
        obtain ⟨h9, h⟩ := h
        refine stWZ (ci := 0) (k0 := 6) (j := x1.toNatClampNeg) (cs' := [cX6 cy adP (adL 0) (sr (sr P 6 x1.toNatClampNeg ((evC 4).getD x1.toNatClampNeg 0)) 7 x1.toNatClampNeg 0), cX3 cy adL L]) hx hb hK hP hD hS rfl cX6_a7 h9 (by decide) rfl cX6_s7 rfl dX6_clear_35 (fun H locs hP hD hS => ?_)
        refine lv_iinc (v := x1 + 1) (lv' := [(1, .int (x1 + 1)), (0, .ref (adP 0))]) hx hb dX6_clear_36 hl (k := 1) rfl rfl (by decide) rfl (fun ls hl => ?_)
        refine lv_goto (tgt := 12) hx hb dX6_clear_39 (by decide) ?_
        replace h := itr_back h hy1
        exact ih1 (x1 + 1) (sr (sr P 6 x1.toNatClampNeg ((evC 4).getD x1.toNatClampNeg 0)) 7 x1.toNatClampNeg 0) L _ _ _ h hP hD hS (lv_sub hl [1, 0] rfl)
  delta f_X6_clear at h
  refine lv_aload_n hx hb dX6_clear_0 rfl (lv_at hl 0 rfl) ?_
  refine lv_iconst (v := 0) hx hb dX6_clear_1 (by decide) ?_
  refine po_6_9 (ci := 0) (cs' := [cX6 cy adP (adL 0) (si P 0 0), cX3 cy adL L]) hx hb hts hown hK hE hP hD hS rfl rfl dX6_clear_2 (fun H locs hP hD hS => ?_)
  refine lv_aload_n hx hb dX6_clear_5 rfl (lv_at hl 0 rfl) ?_
  refine lv_iconst (v := 0) hx hb dX6_clear_6 (by decide) ?_
  refine po_6_24 (ci := 0) (cs' := [cX6 cy adP (adL 0) (si (si P 0 0) 3 0), cX3 cy adL L]) hx hb hts hown hK hE hP hD hS rfl rfl dX6_clear_7 (fun H locs hP hD hS => ?_)
  refine lv_iconst (v := 0) hx hb dX6_clear_10 (by decide) ?_
  refine lv_istore_n (lv' := [(1, .int 0), (0, .ref (adP 0))]) hx hb dX6_clear_11 rfl hl (by decide) rfl (fun ls hl => ?_)
  exact L12  N 0 (si (si P 0 0) 3 0) L _ _ _ h hP hD hS (lv_sub hl [1, 0] rfl)
theorem hds_X8_forgetSitting : yX8_forgetSitting.cls ≠ "java/lang/invoke/MethodHandle" ∧ yX8_forgetSitting.cls ≠ "java/lang/invoke/VarHandle" ∧ (parseMethodDescriptor yX8_forgetSitting.desc).map (fun d => d.parameters.length) = some 1 := ⟨by decide +kernel, by decide +kernel, by decide +kernel⟩
theorem hd_X8_forgetSitting : yX8_forgetSitting.cls = RX8 ∧ yX8_forgetSitting.cls ≠ "java/lang/invoke/MethodHandle" ∧ yX8_forgetSitting.cls ≠ "java/lang/invoke/VarHandle" ∧ (parseMethodDescriptor yX8_forgetSitting.desc).map (fun d => d.parameters.length) = some 1 := ⟨rfl, hds_X8_forgetSitting⟩
def f_X8_forgetSitting (S : VV) (a1 : Int32) : Option (VV) :=
  if a1 < 0 then some S else if (3 : Int32) ≤ a1 then some S else gin a1 3 (gin a1 3 (gin a1 3 (gin a1 3 (gin a1 3 (some (sr (sr (sr (sr (sr S 13 a1.toNatClampNeg 0) 14 a1.toNatClampNeg 0) 15 a1.toNatClampNeg 0) 16 a1.toNatClampNeg 0) 17 a1.toNatClampNeg 0))))))
set_option maxHeartbeats 4000000 in
set_option maxRecDepth 100000 in
theorem k_X8_forgetSitting (l : Launch) (G : va_G) (cy : Nat → ClassId) (ev : Nat → Nat) (adS : Nat → Nat) (S : VV) (a1 : Int32) (res : VV) (h : f_X8_forgetSitting S a1 = some res) : MetV l yX8_forgetSitting cX8_forgetSitting 2 none 0 0 G cy ev [.ref (adS 0), .int a1] (wj [cX8 cy adS S]) (wj [cX8 cy adS res]) := by
  refine MetQ.start (by decide +kernel) (Nat.le_of_ble_eq_true rfl) (fun p e s m args below meth c A ls hx hb hr hml hown hts hlocks hK hP hD hA hl hE => ?_)
  have hS : va_S A s.heap s.heap [] := va_S.rf
  have hown : s.vm.findClass RX8 = some m.cls := hown
  have hl : lv_has ls 2 [(0, .ref (adS 0)), (1, .int a1)] := hl
  delta f_X8_forgetSitting at h
  refine lv_iload_n hx hb dX8_forgetSitting_0 rfl (lv_at hl 1 rfl) ?_
  refine lv_if_lt (tgt := 44) hx hb dX8_forgetSitting_1 (by decide) (fun c9 => ?_) (fun c9 => ?_)
  · replace h := (br h).1 c9
    exact retV (fw := fun q => wj [cX8 cy adS q]) h hx hb hr hlocks hK hP hD hS dX8_forgetSitting_44
  · replace h := (br h).2 c9
    refine lv_iload_n hx hb dX8_forgetSitting_4 rfl (lv_at hl 1 rfl) ?_
    refine lv_iconst (v := 3) hx hb dX8_forgetSitting_5 (by decide) ?_
    refine lv_icmp_ge (tgt := 44) hx hb dX8_forgetSitting_6 (by decide) (fun c9 => ?_) (fun c9 => ?_)
    · replace h := (br h).1 c9
      exact retV (fw := fun q => wj [cX8 cy adS q]) h hx hb hr hlocks hK hP hD hS dX8_forgetSitting_44
    · replace h := (br h).2 c9
      refine lv_aload_n hx hb dX8_forgetSitting_9 rfl (lv_at hl 0 rfl) ?_
      refine go_8_53 (ci := 0) hx hb hts hown hK hE hP rfl dX8_forgetSitting_10 ?_
      refine lv_iload_n hx hb dX8_forgetSitting_13 rfl (lv_at hl 1 rfl) ?_
      refine lv_iconst (v := 0) hx hb dX8_forgetSitting_14 (by decide) ?_
      replace h := gin_inv h
      obtain ⟨h9, h⟩ := h
      refine stWI (ci := 0) (k0 := 8) (j := a1.toNatClampNeg) (cs' := [cX8 cy adS (sr S 13 a1.toNatClampNeg 0)]) hx hb hK hP hD hS rfl cX8_a13 h9 rfl cX8_s13 rfl dX8_forgetSitting_15 (fun H locs hP hD hS => ?_)
      refine lv_aload_n hx hb dX8_forgetSitting_16 rfl (lv_at hl 0 rfl) ?_
      refine go_8_56 (ci := 0) hx hb hts hown hK hE hP rfl dX8_forgetSitting_17 ?_
      refine lv_iload_n hx hb dX8_forgetSitting_20 rfl (lv_at hl 1 rfl) ?_
      refine lv_iconst (v := 0) hx hb dX8_forgetSitting_21 (by decide) ?_
      replace h := gin_inv h
      obtain ⟨h9, h⟩ := h
      refine stWI (ci := 0) (k0 := 9) (j := a1.toNatClampNeg) (cs' := [cX8 cy adS (sr (sr S 13 a1.toNatClampNeg 0) 14 a1.toNatClampNeg 0)]) hx hb hK hP hD hS rfl cX8_a14 h9 rfl cX8_s14 rfl dX8_forgetSitting_22 (fun H locs hP hD hS => ?_)
      refine lv_aload_n hx hb dX8_forgetSitting_23 rfl (lv_at hl 0 rfl) ?_
      refine go_8_59 (ci := 0) hx hb hts hown hK hE hP rfl dX8_forgetSitting_24 ?_
      refine lv_iload_n hx hb dX8_forgetSitting_27 rfl (lv_at hl 1 rfl) ?_
      refine lv_iconst (v := 0) hx hb dX8_forgetSitting_28 (by decide) ?_
      replace h := gin_inv h
      obtain ⟨h9, h⟩ := h
      refine stWI (ci := 0) (k0 := 10) (j := a1.toNatClampNeg) (cs' := [cX8 cy adS (sr (sr (sr S 13 a1.toNatClampNeg 0) 14 a1.toNatClampNeg 0) 15 a1.toNatClampNeg 0)]) hx hb hK hP hD hS rfl cX8_a15 h9 rfl cX8_s15 rfl dX8_forgetSitting_29 (fun H locs hP hD hS => ?_)
      refine lv_aload_n hx hb dX8_forgetSitting_30 rfl (lv_at hl 0 rfl) ?_
      refine go_8_62 (ci := 0) hx hb hts hown hK hE hP rfl dX8_forgetSitting_31 ?_
      refine lv_iload_n hx hb dX8_forgetSitting_34 rfl (lv_at hl 1 rfl) ?_
      refine lv_iconst (v := 0) hx hb dX8_forgetSitting_35 (by decide) ?_
      replace h := gin_inv h
      obtain ⟨h9, h⟩ := h
      refine stWI (ci := 0) (k0 := 11) (j := a1.toNatClampNeg) (cs' := [cX8 cy adS (sr (sr (sr (sr S 13 a1.toNatClampNeg 0) 14 a1.toNatClampNeg 0) 15 a1.toNatClampNeg 0) 16 a1.toNatClampNeg 0)]) hx hb hK hP hD hS rfl cX8_a16 h9 rfl cX8_s16 rfl dX8_forgetSitting_36 (fun H locs hP hD hS => ?_)
      refine lv_aload_n hx hb dX8_forgetSitting_37 rfl (lv_at hl 0 rfl) ?_
      refine go_8_65 (ci := 0) hx hb hts hown hK hE hP rfl dX8_forgetSitting_38 ?_
      refine lv_iload_n hx hb dX8_forgetSitting_41 rfl (lv_at hl 1 rfl) ?_
      refine lv_iconst (v := 0) hx hb dX8_forgetSitting_42 (by decide) ?_
      replace h := gin_inv h
      obtain ⟨h9, h⟩ := h
      refine stWI (ci := 0) (k0 := 12) (j := a1.toNatClampNeg) (cs' := [cX8 cy adS (sr (sr (sr (sr (sr S 13 a1.toNatClampNeg 0) 14 a1.toNatClampNeg 0) 15 a1.toNatClampNeg 0) 16 a1.toNatClampNeg 0) 17 a1.toNatClampNeg 0)]) hx hb hK hP hD hS rfl cX8_a17 h9 rfl cX8_s17 rfl dX8_forgetSitting_43 (fun H locs hP hD hS => ?_)
      exact retV (fw := fun q => wj [cX8 cy adS q]) h hx hb hr hlocks hK hP hD hS dX8_forgetSitting_44
theorem hds_X8_begin : yX8_begin.cls ≠ "java/lang/invoke/MethodHandle" ∧ yX8_begin.cls ≠ "java/lang/invoke/VarHandle" ∧ (parseMethodDescriptor yX8_begin.desc).map (fun d => d.parameters.length) = some 1 := ⟨by decide +kernel, by decide +kernel, by decide +kernel⟩
theorem hd_X8_begin : yX8_begin.cls = RX8 ∧ yX8_begin.cls ≠ "java/lang/invoke/MethodHandle" ∧ yX8_begin.cls ≠ "java/lang/invoke/VarHandle" ∧ (parseMethodDescriptor yX8_begin.desc).map (fun d => d.parameters.length) = some 1 := ⟨rfl, hds_X8_begin⟩
def f_X8_begin_s86 (N : Nat) (S : VV) (P : VV) (x2 : Int32) : Option (((Int32 × VV) ⊕ (VV))) :=
  if (3 : Int32) ≤ x2 then inrO (some S) else gin x2 3 (gin x2 3 (gin x2 3 (bnd (f_X8_forgetSitting (sr (sr S 3 x2.toNatClampNeg 0) 4 x2.toNatClampNeg (P.2.1 5 x2.toNatClampNeg)) x2) (fun q8601 => some (.inl (x2 + 1, q8601))))))
def f_X8_begin_s37 (N : Nat) (S : VV) (P : VV) (x2 : Int32) : Option (((Int32 × VV) ⊕ (VV))) :=
  if (8 : Int32) ≤ x2 then inrO (itr (fun q : Int32 × VV => f_X8_begin_s86 N q.2 P q.1) N (0, S)) else gin x2 8 (gin x2 8 (gin x2 8 (gin x2 8 (gin x2 8 (some (.inl (x2 + 1, sr (sr (sr (sr (sr S 2 x2.toNatClampNeg ((-1))) 5 x2.toNatClampNeg 0) 6 x2.toNatClampNeg 0) 7 x2.toNatClampNeg 0) 8 x2.toNatClampNeg 0)))))))
def f_X8_begin (N : Nat) (S : VV) (P : VV) : Option (VV) :=
  itr (fun q : Int32 × VV => f_X8_begin_s37 N q.2 P q.1) N (0, si (si (si (si (si (si S 0 0) 1 (P.2.1 6 5)) 9 0) 10 0) 11 0) 12 0)
set_option maxHeartbeats 4000000 in
set_option maxRecDepth 100000 in
theorem k_X8_begin (l : Launch) (G : va_G) (cy : Nat → ClassId) (ev : Nat → Nat) (N : Nat) (adS : Nat → Nat) (S : VV) (adP : Nat → Nat) (rL : Nat) (P : VV)  (res : VV) (h : f_X8_begin N S P = some res) : MetV l yX8_begin cX8_begin 3 none 1 21 G cy ev [.ref (adS 0), .ref (adP 0)] (wj [cX8 cy adS S, cX6 cy adP rL P]) (wj [cX8 cy adS res, cX6 cy adP rL P]) := by
  refine MetQ.start (by decide +kernel) (Nat.le_of_ble_eq_true rfl) (fun p e s m args below meth c A ls hx hb hr hml hown hts hlocks hK hP hD hA hl hE => ?_)
  have hS : va_S A s.heap s.heap [] := va_S.rf
  have hown : s.vm.findClass RX8 = some m.cls := hown
  have hl : lv_has ls 3 [(0, .ref (adS 0)), (1, .ref (adP 0))] := hl
  have L86 : ∀ (n : Nat) (x2 : Int32) (S : VV) (H : Heap) (locs : List Loc) (ls : Array Slot), itr (fun q : Int32 × VV => f_X8_begin_s86 N q.2 P q.1) n (x2, S) = some res → va_P G vwCl (wj [cX8 cy adS S, cX6 cy adP rL P]) H → va_D A (wj [cX8 cy adS S, cX6 cy adP rL P]) → va_S A s.heap H locs → lv_has ls 3 [(0, .ref (adS 0)), (1, .ref (adP 0)), (2, .int x2)] → W p l e (rmX 1 21) s m args below meth c H locs 0 0 (MQ below (mQv G cy A (wj [cX8 cy adS res, cX6 cy adP rL P])) args s 0 0 A) (F0 m 86 ls []) := by
    intro n
    induction n with
    | zero => intro x2 S H locs ls h; exact (itr_zero h).elim
    | succ n ih1 =>
      intro x2 S H locs ls h hP hD hS hl
      obtain ⟨y1, h, hy1⟩ := itr_inv h
      have h : f_X8_begin_s86 N S P x2 = some y1 := h
      delta f_X8_begin_s86 at h
      refine lv_iload_n hx hb dX8_begin_86 rfl (lv_at hl 2 rfl) ?_
      refine lv_iconst (v := 3) hx hb dX8_begin_87 (by decide) ?_
      refine lv_icmp_ge (tgt := 121) hx hb dX8_begin_88 (by decide) (fun c9 => ?_) (fun c9 => ?_)
      · replace h := (br h).1 c9
        replace h := itr_exit h hy1
        exact retV (fw := fun q => wj [cX8 cy adS q, cX6 cy adP rL P]) h hx hb hr hlocks hK hP hD hS dX8_begin_121
      · replace h := (br h).2 c9
        refine lv_aload_n hx hb dX8_begin_91 rfl (lv_at hl 0 rfl) ?_
        refine go_8_22 (ci := 0) hx hb hts hown hK hE hP rfl dX8_begin_92 ?_
        refine lv_iload_n hx hb dX8_begin_95 rfl (lv_at hl 2 rfl) ?_
        refine lv_iconst (v := 0) hx hb dX8_begin_96 (by decide) ?_
        replace h := gin_inv h
        obtain ⟨h9, h⟩ := h
        refine stWI (ci := 0) (k0 := 2) (j := x2.toNatClampNeg) (cs' := [cX8 cy adS (sr S 3 x2.toNatClampNeg 0), cX6 cy adP rL P]) hx hb hK hP hD hS rfl cX8_a3 h9 rfl cX8_s3 rfl dX8_begin_97 (fun H locs hP hD hS => ?_)
        refine lv_aload_n hx hb dX8_begin_98 rfl (lv_at hl 0 rfl) ?_
        refine go_8_25 (ci := 0) hx hb hts hown hK hE hP rfl dX8_begin_99 ?_
        refine lv_iload_n hx hb dX8_begin_102 rfl (lv_at hl 2 rfl) ?_
        refine lv_aload_n hx hb dX8_begin_103 rfl (lv_at hl 1 rfl) ?_
        refine go_8_73 (ci := 1) hx hb hts hown hK hE hP rfl dX8_begin_104 ?_
        refine lv_iload_n hx hb dX8_begin_107 rfl (lv_at hl 2 rfl) ?_
        replace h := gin_inv h
        obtain ⟨h9, h⟩ := h
        refine ldWI (ci := 1) (k0 := 4) (g := P.2.1 5) (j := x2.toNatClampNeg) hx hb hK hP rfl cX6_a5 rfl h9 rfl dX8_begin_108 ?_
        replace h := gin_inv h
        obtain ⟨h9, h⟩ := h
        refine stWI (ci := 0) (k0 := 3) (j := x2.toNatClampNeg) (cs' := [cX8 cy adS (sr (sr S 3 x2.toNatClampNeg 0) 4 x2.toNatClampNeg (P.2.1 5 x2.toNatClampNeg)), cX6 cy adP rL P]) hx hb hK hP hD hS rfl cX8_a4 h9 rfl cX8_s4 rfl dX8_begin_109 (fun H locs hP hD hS => ?_)
        refine lv_aload_n hx hb dX8_begin_110 rfl (lv_at hl 0 rfl) ?_
        refine lv_iload_n hx hb dX8_begin_111 rfl (lv_at hl 2 rfl) ?_
        replace h := bd h
        obtain ⟨q8601, h8602, h⟩ := h
        refine callWVv (As := [.int x2]) (rest := []) (cs' := [cX8 cy adS q8601, cX6 cy adP rL P]) (isC := [0]) (isR := [1]) hx hb hml hown hts (k_X8_forgetSitting l G cy ev adS (sr (sr S 3 x2.toNatClampNeg 0) 4 x2.toNatClampNeg (P.2.1 5 x2.toNatClampNeg)) x2 q8601 h8602) wm_8_20 wm_8_21 wm_8_22 wm_2_2 wm_8_23 hd_X8_forgetSitting ⟨by decide, by decide⟩ hK hP hD hS hA hE rfl rfl rfl (cov_of (n := 2) rfl (by decide)) (by decide) rfl (recvW (ci := 0) hK hP rfl cX8_o rfl) rfl rfl hl.1 (Nat.le_of_ble_eq_true rfl) dX8_begin_112 (fun H locs hP hD hS => ?_)
        refine lv_iinc (v := x2 + 1) (lv' := [(2, .int (x2 + 1)), (0, .ref (adS 0)), (1, .ref (adP 0))]) hx hb dX8_begin_115 hl (k := 2) rfl rfl (by decide) rfl (fun ls hl => ?_)
        refine lv_goto (tgt := 86) hx hb dX8_begin_118 (by decide) ?_
        replace h := itr_back h hy1
        exact ih1 (x2 + 1) q8601 _ _ _ h hP hD hS (lv_sub hl [1, 2, 0] rfl)
  have L37 : ∀ (n : Nat) (x2 : Int32) (S : VV) (H : Heap) (locs : List Loc) (ls : Array Slot), itr (fun q : Int32 × VV => f_X8_begin_s37 N q.2 P q.1) n (x2, S) = some res → va_P G vwCl (wj [cX8 cy adS S, cX6 cy adP rL P]) H → va_D A (wj [cX8 cy adS S, cX6 cy adP rL P]) → va_S A s.heap H locs → lv_has ls 3 [(0, .ref (adS 0)), (1, .ref (adP 0)), (2, .int x2)] → W p l e (rmX 1 21) s m args below meth c H locs 0 0 (MQ below (mQv G cy A (wj [cX8 cy adS res, cX6 cy adP rL P])) args s 0 0 A) (F0 m 37 ls []) := by
    intro n
    induction n with
    | zero => intro x2 S H locs ls h; exact (itr_zero h).elim
    | succ n ih1 =>
      intro x2 S H locs ls h hP hD hS hl
      obtain ⟨y1, h, hy1⟩ := itr_inv h
      have h : f_X8_begin_s37 N S P x2 = some y1 := h
      delta f_X8_begin_s37 at h
      refine lv_iload_n hx hb dX8_begin_37 rfl (lv_at hl 2 rfl) ?_
      refine lv_bipush (v := 8) hx hb dX8_begin_38 (by decide) ?_
      refine lv_icmp_ge (tgt := 84) hx hb dX8_begin_40 (by decide) (fun c9 => ?_) (fun c9 => ?_)
      · replace h := (br h).1 c9
        replace h := itr_exit h hy1
        refine lv_iconst (v := 0) hx hb dX8_begin_84 (by decide) ?_
        refine lv_istore_n (lv' := [(2, .int 0), (0, .ref (adS 0)), (1, .ref (adP 0))]) hx hb dX8_begin_85 rfl hl (by decide) rfl (fun ls hl => ?_)
        exact L86  N 0 S _ _ _ h hP hD hS (lv_sub hl [1, 2, 0] rfl)
      · replace h := (br h).2 c9
        refine lv_aload_n hx hb dX8_begin_43 rfl (lv_at hl 0 rfl) ?_
        refine go_8_18 (ci := 0) hx hb hts hown hK hE hP rfl dX8_begin_44 ?_
        refine lv_iload_n hx hb dX8_begin_47 rfl (lv_at hl 2 rfl) ?_
        refine lv_iconst (v := (-1)) hx hb dX8_begin_48 (by decide) ?_
        replace h := gin_inv h
        obtain ⟨h9, h⟩ := h
        refine stWI (ci := 0) (k0 := 1) (j := x2.toNatClampNeg) (cs' := [cX8 cy adS (sr S 2 x2.toNatClampNeg ((-1))), cX6 cy adP rL P]) hx hb hK hP hD hS rfl cX8_a2 h9 rfl cX8_s2 rfl dX8_begin_49 (fun H locs hP hD hS => ?_)
        refine lv_aload_n hx hb dX8_begin_50 rfl (lv_at hl 0 rfl) ?_
        refine go_8_28 (ci := 0) hx hb hts hown hK hE hP rfl dX8_begin_51 ?_
        refine lv_iload_n hx hb dX8_begin_54 rfl (lv_at hl 2 rfl) ?_
        refine lv_iconst (v := 0) hx hb dX8_begin_55 (by decide) ?_
        replace h := gin_inv h
        obtain ⟨h9, h⟩ := h
        refine stWI (ci := 0) (k0 := 4) (j := x2.toNatClampNeg) (cs' := [cX8 cy adS (sr (sr S 2 x2.toNatClampNeg ((-1))) 5 x2.toNatClampNeg 0), cX6 cy adP rL P]) hx hb hK hP hD hS rfl cX8_a5 h9 rfl cX8_s5 rfl dX8_begin_56 (fun H locs hP hD hS => ?_)
        refine lv_aload_n hx hb dX8_begin_57 rfl (lv_at hl 0 rfl) ?_
        refine go_8_31 (ci := 0) hx hb hts hown hK hE hP rfl dX8_begin_58 ?_
        refine lv_iload_n hx hb dX8_begin_61 rfl (lv_at hl 2 rfl) ?_
        refine lv_iconst (v := 0) hx hb dX8_begin_62 (by decide) ?_
        replace h := gin_inv h
        obtain ⟨h9, h⟩ := h
        refine stWI (ci := 0) (k0 := 5) (j := x2.toNatClampNeg) (cs' := [cX8 cy adS (sr (sr (sr S 2 x2.toNatClampNeg ((-1))) 5 x2.toNatClampNeg 0) 6 x2.toNatClampNeg 0), cX6 cy adP rL P]) hx hb hK hP hD hS rfl cX8_a6 h9 rfl cX8_s6 rfl dX8_begin_63 (fun H locs hP hD hS => ?_)
        refine lv_aload_n hx hb dX8_begin_64 rfl (lv_at hl 0 rfl) ?_
        refine go_8_34 (ci := 0) hx hb hts hown hK hE hP rfl dX8_begin_65 ?_
        refine lv_iload_n hx hb dX8_begin_68 rfl (lv_at hl 2 rfl) ?_
        refine lv_iconst (v := 0) hx hb dX8_begin_69 (by decide) ?_
        replace h := gin_inv h
        obtain ⟨h9, h⟩ := h
        refine stWI (ci := 0) (k0 := 6) (j := x2.toNatClampNeg) (cs' := [cX8 cy adS (sr (sr (sr (sr S 2 x2.toNatClampNeg ((-1))) 5 x2.toNatClampNeg 0) 6 x2.toNatClampNeg 0) 7 x2.toNatClampNeg 0), cX6 cy adP rL P]) hx hb hK hP hD hS rfl cX8_a7 h9 rfl cX8_s7 rfl dX8_begin_70 (fun H locs hP hD hS => ?_)
        refine lv_aload_n hx hb dX8_begin_71 rfl (lv_at hl 0 rfl) ?_
        refine go_8_37 (ci := 0) hx hb hts hown hK hE hP rfl dX8_begin_72 ?_
        refine lv_iload_n hx hb dX8_begin_75 rfl (lv_at hl 2 rfl) ?_
        refine lv_iconst (v := 0) hx hb dX8_begin_76 (by decide) ?_
        replace h := gin_inv h
        obtain ⟨h9, h⟩ := h
        refine stWI (ci := 0) (k0 := 7) (j := x2.toNatClampNeg) (cs' := [cX8 cy adS (sr (sr (sr (sr (sr S 2 x2.toNatClampNeg ((-1))) 5 x2.toNatClampNeg 0) 6 x2.toNatClampNeg 0) 7 x2.toNatClampNeg 0) 8 x2.toNatClampNeg 0), cX6 cy adP rL P]) hx hb hK hP hD hS rfl cX8_a8 h9 rfl cX8_s8 rfl dX8_begin_77 (fun H locs hP hD hS => ?_)
        refine lv_iinc (v := x2 + 1) (lv' := [(2, .int (x2 + 1)), (0, .ref (adS 0)), (1, .ref (adP 0))]) hx hb dX8_begin_78 hl (k := 2) rfl rfl (by decide) rfl (fun ls hl => ?_)
        refine lv_goto (tgt := 37) hx hb dX8_begin_81 (by decide) ?_
        replace h := itr_back h hy1
        exact ih1 (x2 + 1) (sr (sr (sr (sr (sr S 2 x2.toNatClampNeg ((-1))) 5 x2.toNatClampNeg 0) 6 x2.toNatClampNeg 0) 7 x2.toNatClampNeg 0) 8 x2.toNatClampNeg 0) _ _ _ h hP hD hS (lv_sub hl [1, 2, 0] rfl)
  delta f_X8_begin at h
  refine lv_aload_n hx hb dX8_begin_0 rfl (lv_at hl 0 rfl) ?_
  refine lv_iconst (v := 0) hx hb dX8_begin_1 (by decide) ?_
  refine po_8_9 (ci := 0) (cs' := [cX8 cy adS (si S 0 0), cX6 cy adP rL P]) hx hb hts hown hK hE hP hD hS rfl rfl dX8_begin_2 (fun H locs hP hD hS => ?_)
  refine lv_aload_n hx hb dX8_begin_5 rfl (lv_at hl 0 rfl) ?_
  refine lv_aload_n hx hb dX8_begin_6 rfl (lv_at hl 1 rfl) ?_
  refine go_8_68 (ci := 1) hx hb hts hown hK hE hP rfl dX8_begin_7 ?_
  refine lv_iconst (v := 5) hx hb dX8_begin_10 (by decide) ?_
  refine ldWI (ci := 1) (k0 := 5) (g := P.2.1 6) (j := 5) hx hb hK hP rfl cX6_a6 rfl (vin_dec (by decide)) (by decide) dX8_begin_11 ?_
  refine po_8_15 (ci := 0) (cs' := [cX8 cy adS (si (si S 0 0) 1 (P.2.1 6 5)), cX6 cy adP rL P]) hx hb hts hown hK hE hP hD hS rfl rfl dX8_begin_12 (fun H locs hP hD hS => ?_)
  refine lv_aload_n hx hb dX8_begin_15 rfl (lv_at hl 0 rfl) ?_
  refine lv_iconst (v := 0) hx hb dX8_begin_16 (by decide) ?_
  refine po_8_40 (ci := 0) (cs' := [cX8 cy adS (si (si (si S 0 0) 1 (P.2.1 6 5)) 9 0), cX6 cy adP rL P]) hx hb hts hown hK hE hP hD hS rfl rfl dX8_begin_17 (fun H locs hP hD hS => ?_)
  refine lv_aload_n hx hb dX8_begin_20 rfl (lv_at hl 0 rfl) ?_
  refine lv_iconst (v := 0) hx hb dX8_begin_21 (by decide) ?_
  refine po_8_43 (ci := 0) (cs' := [cX8 cy adS (si (si (si (si S 0 0) 1 (P.2.1 6 5)) 9 0) 10 0), cX6 cy adP rL P]) hx hb hts hown hK hE hP hD hS rfl rfl dX8_begin_22 (fun H locs hP hD hS => ?_)
  refine lv_aload_n hx hb dX8_begin_25 rfl (lv_at hl 0 rfl) ?_
  refine lv_iconst (v := 0) hx hb dX8_begin_26 (by decide) ?_
  refine po_8_46 (ci := 0) (cs' := [cX8 cy adS (si (si (si (si (si S 0 0) 1 (P.2.1 6 5)) 9 0) 10 0) 11 0), cX6 cy adP rL P]) hx hb hts hown hK hE hP hD hS rfl rfl dX8_begin_27 (fun H locs hP hD hS => ?_)
  refine lv_aload_n hx hb dX8_begin_30 rfl (lv_at hl 0 rfl) ?_
  refine lv_iconst (v := 0) hx hb dX8_begin_31 (by decide) ?_
  refine po_8_49 (ci := 0) (cs' := [cX8 cy adS (si (si (si (si (si (si S 0 0) 1 (P.2.1 6 5)) 9 0) 10 0) 11 0) 12 0), cX6 cy adP rL P]) hx hb hts hown hK hE hP hD hS rfl rfl (by decide) dX8_begin_32 (fun H locs hP hD hS => ?_)
  refine lv_iconst (v := 0) hx hb dX8_begin_35 (by decide) ?_
  refine lv_istore_n (lv' := [(2, .int 0), (0, .ref (adS 0)), (1, .ref (adP 0))]) hx hb dX8_begin_36 rfl hl (by decide) rfl (fun ls hl => ?_)
  exact L37  N 0 (si (si (si (si (si (si S 0 0) 1 (P.2.1 6 5)) 9 0) 10 0) 11 0) 12 0) _ _ _ h hP hD hS (lv_sub hl [1, 2, 0] rfl)
theorem hds_X8_copy : yX8_copy.cls ≠ "java/lang/invoke/MethodHandle" ∧ yX8_copy.cls ≠ "java/lang/invoke/VarHandle" ∧ (parseMethodDescriptor yX8_copy.desc).map (fun d => d.parameters.length) = some 1 := ⟨by decide +kernel, by decide +kernel, by decide +kernel⟩
theorem hd_X8_copy : yX8_copy.cls = RX8 ∧ yX8_copy.cls ≠ "java/lang/invoke/MethodHandle" ∧ yX8_copy.cls ≠ "java/lang/invoke/VarHandle" ∧ (parseMethodDescriptor yX8_copy.desc).map (fun d => d.parameters.length) = some 1 := ⟨rfl, hds_X8_copy⟩
def f_X8_copy (S : VV) (O : VV) : Option (VV) :=
  gbz (O.1 12) (some (sw (sw (sw (sw (sw (sw (sw (sw (sw (sw (sw (sw (si (si (si (si (si (si S 0 (O.1 0)) 1 (O.1 1)) 9 (O.1 9)) 10 (O.1 10)) 11 (O.1 11)) 12 (O.1 12)) 2 (va_cpy (O.2.1 2) (S.2.1 2) 0 0 8)) 3 (va_cpy (O.2.1 3) (S.2.1 3) 0 0 3)) 4 (va_cpy (O.2.1 4) (S.2.1 4) 0 0 3)) 5 (va_cpy (O.2.1 5) (S.2.1 5) 0 0 8)) 6 (va_cpy (O.2.1 6) (S.2.1 6) 0 0 8)) 7 (va_cpy (O.2.1 7) (S.2.1 7) 0 0 8)) 8 (va_cpy (O.2.1 8) (S.2.1 8) 0 0 8)) 13 (va_cpy (O.2.1 13) (S.2.1 13) 0 0 3)) 14 (va_cpy (O.2.1 14) (S.2.1 14) 0 0 3)) 15 (va_cpy (O.2.1 15) (S.2.1 15) 0 0 3)) 16 (va_cpy (O.2.1 16) (S.2.1 16) 0 0 3)) 17 (va_cpy (O.2.1 17) (S.2.1 17) 0 0 3)))
set_option maxHeartbeats 4000000 in
set_option maxRecDepth 100000 in
theorem k_X8_copy (l : Launch) (G : va_G) (cy : Nat → ClassId) (ev : Nat → Nat) (adS : Nat → Nat) (S : VV) (adO : Nat → Nat) (O : VV)  (res : VV) (h : f_X8_copy S O = some res) : MetV l yX8_copy cX8_copy 2 none 1 60 G cy ev [.ref (adS 0), .ref (adO 0)] (wj [cX8 cy adS S, cX8 cy adO O]) (wj [cX8 cy adS res, cX8 cy adO O]) := by
  refine MetQ.start (by decide +kernel) (Nat.le_of_ble_eq_true rfl) (fun p e s m args below meth c A ls hx hb hr hml hown hts hlocks hK hP hD hA hl hE => ?_)
  have hS : va_S A s.heap s.heap [] := va_S.rf
  have hown : s.vm.findClass RX8 = some m.cls := hown
  have hl : lv_has ls 2 [(0, .ref (adS 0)), (1, .ref (adO 0))] := hl
  delta f_X8_copy at h
  refine lv_aload_n hx hb dX8_copy_0 rfl (lv_at hl 0 rfl) ?_
  refine lv_aload_n hx hb dX8_copy_1 rfl (lv_at hl 1 rfl) ?_
  refine go_8_9 (ci := 1) (x := O.1 0) hx hb hts hown hK hE hP rfl rfl dX8_copy_2 ?_
  refine po_8_9 (ci := 0) (cs' := [cX8 cy adS (si S 0 (O.1 0)), cX8 cy adO O]) hx hb hts hown hK hE hP hD hS rfl rfl dX8_copy_5 (fun H locs hP hD hS => ?_)
  refine lv_aload_n hx hb dX8_copy_8 rfl (lv_at hl 0 rfl) ?_
  refine lv_aload_n hx hb dX8_copy_9 rfl (lv_at hl 1 rfl) ?_
  refine go_8_15 (ci := 1) (x := O.1 1) hx hb hts hown hK hE hP rfl rfl dX8_copy_10 ?_
  refine po_8_15 (ci := 0) (cs' := [cX8 cy adS (si (si S 0 (O.1 0)) 1 (O.1 1)), cX8 cy adO O]) hx hb hts hown hK hE hP hD hS rfl rfl dX8_copy_13 (fun H locs hP hD hS => ?_)
  refine lv_aload_n hx hb dX8_copy_16 rfl (lv_at hl 0 rfl) ?_
  refine lv_aload_n hx hb dX8_copy_17 rfl (lv_at hl 1 rfl) ?_
  refine go_8_40 (ci := 1) (x := O.1 9) hx hb hts hown hK hE hP rfl rfl dX8_copy_18 ?_
  refine po_8_40 (ci := 0) (cs' := [cX8 cy adS (si (si (si S 0 (O.1 0)) 1 (O.1 1)) 9 (O.1 9)), cX8 cy adO O]) hx hb hts hown hK hE hP hD hS rfl rfl dX8_copy_21 (fun H locs hP hD hS => ?_)
  refine lv_aload_n hx hb dX8_copy_24 rfl (lv_at hl 0 rfl) ?_
  refine lv_aload_n hx hb dX8_copy_25 rfl (lv_at hl 1 rfl) ?_
  refine go_8_43 (ci := 1) (x := O.1 10) hx hb hts hown hK hE hP rfl rfl dX8_copy_26 ?_
  refine po_8_43 (ci := 0) (cs' := [cX8 cy adS (si (si (si (si S 0 (O.1 0)) 1 (O.1 1)) 9 (O.1 9)) 10 (O.1 10)), cX8 cy adO O]) hx hb hts hown hK hE hP hD hS rfl rfl dX8_copy_29 (fun H locs hP hD hS => ?_)
  refine lv_aload_n hx hb dX8_copy_32 rfl (lv_at hl 0 rfl) ?_
  refine lv_aload_n hx hb dX8_copy_33 rfl (lv_at hl 1 rfl) ?_
  refine go_8_46 (ci := 1) (x := O.1 11) hx hb hts hown hK hE hP rfl rfl dX8_copy_34 ?_
  refine po_8_46 (ci := 0) (cs' := [cX8 cy adS (si (si (si (si (si S 0 (O.1 0)) 1 (O.1 1)) 9 (O.1 9)) 10 (O.1 10)) 11 (O.1 11)), cX8 cy adO O]) hx hb hts hown hK hE hP hD hS rfl rfl dX8_copy_37 (fun H locs hP hD hS => ?_)
  refine lv_aload_n hx hb dX8_copy_40 rfl (lv_at hl 0 rfl) ?_
  refine lv_aload_n hx hb dX8_copy_41 rfl (lv_at hl 1 rfl) ?_
  refine go_8_49 (ci := 1) (x := O.1 12) hx hb hts hown hK hE hP rfl rfl dX8_copy_42 ?_
  replace h := gbz_inv h
  obtain ⟨h9, h⟩ := h
  refine po_8_49 (ci := 0) (cs' := [cX8 cy adS (si (si (si (si (si (si S 0 (O.1 0)) 1 (O.1 1)) 9 (O.1 9)) 10 (O.1 10)) 11 (O.1 11)) 12 (O.1 12)), cX8 cy adO O]) hx hb hts hown hK hE hP hD hS rfl rfl h9 dX8_copy_45 (fun H locs hP hD hS => ?_)
  refine lv_aload_n hx hb dX8_copy_48 rfl (lv_at hl 1 rfl) ?_
  refine go_8_18 (ci := 1) hx hb hts hown hK hE hP rfl dX8_copy_49 ?_
  refine lv_iconst (v := 0) hx hb dX8_copy_52 (by decide) ?_
  refine lv_aload_n hx hb dX8_copy_53 rfl (lv_at hl 0 rfl) ?_
  refine go_8_18 (ci := 0) hx hb hts hown hK hE hP rfl dX8_copy_54 ?_
  refine lv_iconst (v := 0) hx hb dX8_copy_57 (by decide) ?_
  refine lv_bipush (v := 8) hx hb dX8_copy_58 (by decide) ?_
  refine cpW (f := O.2.1 2) (g := S.2.1 2) (cs' := [cX8 cy adS (sw (si (si (si (si (si (si S 0 (O.1 0)) 1 (O.1 1)) 9 (O.1 9)) 10 (O.1 10)) 11 (O.1 11)) 12 (O.1 12)) 2 (va_cpy (O.2.1 2) (S.2.1 2) 0 0 8)), cX8 cy adO O]) (ci := 1) (k0 := 1) (cj := 0) (k1 := 1) hx hb (by rw [hml]; exact hl.1.symm) hown (hts _ wm_43_6) hts hK hP hD hS rfl cX8_a2 rfl cX8_a2 rfl rfl (by decide) (by decide) (by decide) (by decide) (by decide) (by decide) (Nat.le_of_ble_eq_true rfl) cX8_w2 rfl dX8_copy_60 (fun H locs hP hD hS => ?_)
  refine lv_aload_n hx hb dX8_copy_63 rfl (lv_at hl 1 rfl) ?_
  refine go_8_22 (ci := 1) hx hb hts hown hK hE hP rfl dX8_copy_64 ?_
  refine lv_iconst (v := 0) hx hb dX8_copy_67 (by decide) ?_
  refine lv_aload_n hx hb dX8_copy_68 rfl (lv_at hl 0 rfl) ?_
  refine go_8_22 (ci := 0) hx hb hts hown hK hE hP rfl dX8_copy_69 ?_
  refine lv_iconst (v := 0) hx hb dX8_copy_72 (by decide) ?_
  refine lv_iconst (v := 3) hx hb dX8_copy_73 (by decide) ?_
  refine cpW (f := O.2.1 3) (g := S.2.1 3) (cs' := [cX8 cy adS (sw (sw (si (si (si (si (si (si S 0 (O.1 0)) 1 (O.1 1)) 9 (O.1 9)) 10 (O.1 10)) 11 (O.1 11)) 12 (O.1 12)) 2 (va_cpy (O.2.1 2) (S.2.1 2) 0 0 8)) 3 (va_cpy (O.2.1 3) (S.2.1 3) 0 0 3)), cX8 cy adO O]) (ci := 1) (k0 := 2) (cj := 0) (k1 := 2) hx hb (by rw [hml]; exact hl.1.symm) hown (hts _ wm_43_6) hts hK hP hD hS rfl cX8_a3 rfl cX8_a3 rfl rfl (by decide) (by decide) (by decide) (by decide) (by decide) (by decide) (Nat.le_of_ble_eq_true rfl) cX8_w3 rfl dX8_copy_74 (fun H locs hP hD hS => ?_)
  refine lv_aload_n hx hb dX8_copy_77 rfl (lv_at hl 1 rfl) ?_
  refine go_8_25 (ci := 1) hx hb hts hown hK hE hP rfl dX8_copy_78 ?_
  refine lv_iconst (v := 0) hx hb dX8_copy_81 (by decide) ?_
  refine lv_aload_n hx hb dX8_copy_82 rfl (lv_at hl 0 rfl) ?_
  refine go_8_25 (ci := 0) hx hb hts hown hK hE hP rfl dX8_copy_83 ?_
  refine lv_iconst (v := 0) hx hb dX8_copy_86 (by decide) ?_
  refine lv_iconst (v := 3) hx hb dX8_copy_87 (by decide) ?_
  refine cpW (f := O.2.1 4) (g := S.2.1 4) (cs' := [cX8 cy adS (sw (sw (sw (si (si (si (si (si (si S 0 (O.1 0)) 1 (O.1 1)) 9 (O.1 9)) 10 (O.1 10)) 11 (O.1 11)) 12 (O.1 12)) 2 (va_cpy (O.2.1 2) (S.2.1 2) 0 0 8)) 3 (va_cpy (O.2.1 3) (S.2.1 3) 0 0 3)) 4 (va_cpy (O.2.1 4) (S.2.1 4) 0 0 3)), cX8 cy adO O]) (ci := 1) (k0 := 3) (cj := 0) (k1 := 3) hx hb (by rw [hml]; exact hl.1.symm) hown (hts _ wm_43_6) hts hK hP hD hS rfl cX8_a4 rfl cX8_a4 rfl rfl (by decide) (by decide) (by decide) (by decide) (by decide) (by decide) (Nat.le_of_ble_eq_true rfl) cX8_w4 rfl dX8_copy_88 (fun H locs hP hD hS => ?_)
  refine lv_aload_n hx hb dX8_copy_91 rfl (lv_at hl 1 rfl) ?_
  refine go_8_28 (ci := 1) hx hb hts hown hK hE hP rfl dX8_copy_92 ?_
  refine lv_iconst (v := 0) hx hb dX8_copy_95 (by decide) ?_
  refine lv_aload_n hx hb dX8_copy_96 rfl (lv_at hl 0 rfl) ?_
  refine go_8_28 (ci := 0) hx hb hts hown hK hE hP rfl dX8_copy_97 ?_
  refine lv_iconst (v := 0) hx hb dX8_copy_100 (by decide) ?_
  refine lv_bipush (v := 8) hx hb dX8_copy_101 (by decide) ?_
  refine cpW (f := O.2.1 5) (g := S.2.1 5) (cs' := [cX8 cy adS (sw (sw (sw (sw (si (si (si (si (si (si S 0 (O.1 0)) 1 (O.1 1)) 9 (O.1 9)) 10 (O.1 10)) 11 (O.1 11)) 12 (O.1 12)) 2 (va_cpy (O.2.1 2) (S.2.1 2) 0 0 8)) 3 (va_cpy (O.2.1 3) (S.2.1 3) 0 0 3)) 4 (va_cpy (O.2.1 4) (S.2.1 4) 0 0 3)) 5 (va_cpy (O.2.1 5) (S.2.1 5) 0 0 8)), cX8 cy adO O]) (ci := 1) (k0 := 4) (cj := 0) (k1 := 4) hx hb (by rw [hml]; exact hl.1.symm) hown (hts _ wm_43_6) hts hK hP hD hS rfl cX8_a5 rfl cX8_a5 rfl rfl (by decide) (by decide) (by decide) (by decide) (by decide) (by decide) (Nat.le_of_ble_eq_true rfl) cX8_w5 rfl dX8_copy_103 (fun H locs hP hD hS => ?_)
  refine lv_aload_n hx hb dX8_copy_106 rfl (lv_at hl 1 rfl) ?_
  refine go_8_31 (ci := 1) hx hb hts hown hK hE hP rfl dX8_copy_107 ?_
  refine lv_iconst (v := 0) hx hb dX8_copy_110 (by decide) ?_
  refine lv_aload_n hx hb dX8_copy_111 rfl (lv_at hl 0 rfl) ?_
  refine go_8_31 (ci := 0) hx hb hts hown hK hE hP rfl dX8_copy_112 ?_
  refine lv_iconst (v := 0) hx hb dX8_copy_115 (by decide) ?_
  refine lv_bipush (v := 8) hx hb dX8_copy_116 (by decide) ?_
  refine cpW (f := O.2.1 6) (g := S.2.1 6) (cs' := [cX8 cy adS (sw (sw (sw (sw (sw (si (si (si (si (si (si S 0 (O.1 0)) 1 (O.1 1)) 9 (O.1 9)) 10 (O.1 10)) 11 (O.1 11)) 12 (O.1 12)) 2 (va_cpy (O.2.1 2) (S.2.1 2) 0 0 8)) 3 (va_cpy (O.2.1 3) (S.2.1 3) 0 0 3)) 4 (va_cpy (O.2.1 4) (S.2.1 4) 0 0 3)) 5 (va_cpy (O.2.1 5) (S.2.1 5) 0 0 8)) 6 (va_cpy (O.2.1 6) (S.2.1 6) 0 0 8)), cX8 cy adO O]) (ci := 1) (k0 := 5) (cj := 0) (k1 := 5) hx hb (by rw [hml]; exact hl.1.symm) hown (hts _ wm_43_6) hts hK hP hD hS rfl cX8_a6 rfl cX8_a6 rfl rfl (by decide) (by decide) (by decide) (by decide) (by decide) (by decide) (Nat.le_of_ble_eq_true rfl) cX8_w6 rfl dX8_copy_118 (fun H locs hP hD hS => ?_)
  refine lv_aload_n hx hb dX8_copy_121 rfl (lv_at hl 1 rfl) ?_
  refine go_8_34 (ci := 1) hx hb hts hown hK hE hP rfl dX8_copy_122 ?_
  refine lv_iconst (v := 0) hx hb dX8_copy_125 (by decide) ?_
  refine lv_aload_n hx hb dX8_copy_126 rfl (lv_at hl 0 rfl) ?_
  refine go_8_34 (ci := 0) hx hb hts hown hK hE hP rfl dX8_copy_127 ?_
  refine lv_iconst (v := 0) hx hb dX8_copy_130 (by decide) ?_
  refine lv_bipush (v := 8) hx hb dX8_copy_131 (by decide) ?_
  refine cpW (f := O.2.1 7) (g := S.2.1 7) (cs' := [cX8 cy adS (sw (sw (sw (sw (sw (sw (si (si (si (si (si (si S 0 (O.1 0)) 1 (O.1 1)) 9 (O.1 9)) 10 (O.1 10)) 11 (O.1 11)) 12 (O.1 12)) 2 (va_cpy (O.2.1 2) (S.2.1 2) 0 0 8)) 3 (va_cpy (O.2.1 3) (S.2.1 3) 0 0 3)) 4 (va_cpy (O.2.1 4) (S.2.1 4) 0 0 3)) 5 (va_cpy (O.2.1 5) (S.2.1 5) 0 0 8)) 6 (va_cpy (O.2.1 6) (S.2.1 6) 0 0 8)) 7 (va_cpy (O.2.1 7) (S.2.1 7) 0 0 8)), cX8 cy adO O]) (ci := 1) (k0 := 6) (cj := 0) (k1 := 6) hx hb (by rw [hml]; exact hl.1.symm) hown (hts _ wm_43_6) hts hK hP hD hS rfl cX8_a7 rfl cX8_a7 rfl rfl (by decide) (by decide) (by decide) (by decide) (by decide) (by decide) (Nat.le_of_ble_eq_true rfl) cX8_w7 rfl dX8_copy_133 (fun H locs hP hD hS => ?_)
  refine lv_aload_n hx hb dX8_copy_136 rfl (lv_at hl 1 rfl) ?_
  refine go_8_37 (ci := 1) hx hb hts hown hK hE hP rfl dX8_copy_137 ?_
  refine lv_iconst (v := 0) hx hb dX8_copy_140 (by decide) ?_
  refine lv_aload_n hx hb dX8_copy_141 rfl (lv_at hl 0 rfl) ?_
  refine go_8_37 (ci := 0) hx hb hts hown hK hE hP rfl dX8_copy_142 ?_
  refine lv_iconst (v := 0) hx hb dX8_copy_145 (by decide) ?_
  refine lv_bipush (v := 8) hx hb dX8_copy_146 (by decide) ?_
  refine cpW (f := O.2.1 8) (g := S.2.1 8) (cs' := [cX8 cy adS (sw (sw (sw (sw (sw (sw (sw (si (si (si (si (si (si S 0 (O.1 0)) 1 (O.1 1)) 9 (O.1 9)) 10 (O.1 10)) 11 (O.1 11)) 12 (O.1 12)) 2 (va_cpy (O.2.1 2) (S.2.1 2) 0 0 8)) 3 (va_cpy (O.2.1 3) (S.2.1 3) 0 0 3)) 4 (va_cpy (O.2.1 4) (S.2.1 4) 0 0 3)) 5 (va_cpy (O.2.1 5) (S.2.1 5) 0 0 8)) 6 (va_cpy (O.2.1 6) (S.2.1 6) 0 0 8)) 7 (va_cpy (O.2.1 7) (S.2.1 7) 0 0 8)) 8 (va_cpy (O.2.1 8) (S.2.1 8) 0 0 8)), cX8 cy adO O]) (ci := 1) (k0 := 7) (cj := 0) (k1 := 7) hx hb (by rw [hml]; exact hl.1.symm) hown (hts _ wm_43_6) hts hK hP hD hS rfl cX8_a8 rfl cX8_a8 rfl rfl (by decide) (by decide) (by decide) (by decide) (by decide) (by decide) (Nat.le_of_ble_eq_true rfl) cX8_w8 rfl dX8_copy_148 (fun H locs hP hD hS => ?_)
  refine lv_aload_n hx hb dX8_copy_151 rfl (lv_at hl 1 rfl) ?_
  refine go_8_53 (ci := 1) hx hb hts hown hK hE hP rfl dX8_copy_152 ?_
  refine lv_iconst (v := 0) hx hb dX8_copy_155 (by decide) ?_
  refine lv_aload_n hx hb dX8_copy_156 rfl (lv_at hl 0 rfl) ?_
  refine go_8_53 (ci := 0) hx hb hts hown hK hE hP rfl dX8_copy_157 ?_
  refine lv_iconst (v := 0) hx hb dX8_copy_160 (by decide) ?_
  refine lv_iconst (v := 3) hx hb dX8_copy_161 (by decide) ?_
  refine cpW (f := O.2.1 13) (g := S.2.1 13) (cs' := [cX8 cy adS (sw (sw (sw (sw (sw (sw (sw (sw (si (si (si (si (si (si S 0 (O.1 0)) 1 (O.1 1)) 9 (O.1 9)) 10 (O.1 10)) 11 (O.1 11)) 12 (O.1 12)) 2 (va_cpy (O.2.1 2) (S.2.1 2) 0 0 8)) 3 (va_cpy (O.2.1 3) (S.2.1 3) 0 0 3)) 4 (va_cpy (O.2.1 4) (S.2.1 4) 0 0 3)) 5 (va_cpy (O.2.1 5) (S.2.1 5) 0 0 8)) 6 (va_cpy (O.2.1 6) (S.2.1 6) 0 0 8)) 7 (va_cpy (O.2.1 7) (S.2.1 7) 0 0 8)) 8 (va_cpy (O.2.1 8) (S.2.1 8) 0 0 8)) 13 (va_cpy (O.2.1 13) (S.2.1 13) 0 0 3)), cX8 cy adO O]) (ci := 1) (k0 := 8) (cj := 0) (k1 := 8) hx hb (by rw [hml]; exact hl.1.symm) hown (hts _ wm_43_6) hts hK hP hD hS rfl cX8_a13 rfl cX8_a13 rfl rfl (by decide) (by decide) (by decide) (by decide) (by decide) (by decide) (Nat.le_of_ble_eq_true rfl) cX8_w13 rfl dX8_copy_162 (fun H locs hP hD hS => ?_)
  refine lv_aload_n hx hb dX8_copy_165 rfl (lv_at hl 1 rfl) ?_
  refine go_8_56 (ci := 1) hx hb hts hown hK hE hP rfl dX8_copy_166 ?_
  refine lv_iconst (v := 0) hx hb dX8_copy_169 (by decide) ?_
  refine lv_aload_n hx hb dX8_copy_170 rfl (lv_at hl 0 rfl) ?_
  refine go_8_56 (ci := 0) hx hb hts hown hK hE hP rfl dX8_copy_171 ?_
  refine lv_iconst (v := 0) hx hb dX8_copy_174 (by decide) ?_
  refine lv_iconst (v := 3) hx hb dX8_copy_175 (by decide) ?_
  refine cpW (f := O.2.1 14) (g := S.2.1 14) (cs' := [cX8 cy adS (sw (sw (sw (sw (sw (sw (sw (sw (sw (si (si (si (si (si (si S 0 (O.1 0)) 1 (O.1 1)) 9 (O.1 9)) 10 (O.1 10)) 11 (O.1 11)) 12 (O.1 12)) 2 (va_cpy (O.2.1 2) (S.2.1 2) 0 0 8)) 3 (va_cpy (O.2.1 3) (S.2.1 3) 0 0 3)) 4 (va_cpy (O.2.1 4) (S.2.1 4) 0 0 3)) 5 (va_cpy (O.2.1 5) (S.2.1 5) 0 0 8)) 6 (va_cpy (O.2.1 6) (S.2.1 6) 0 0 8)) 7 (va_cpy (O.2.1 7) (S.2.1 7) 0 0 8)) 8 (va_cpy (O.2.1 8) (S.2.1 8) 0 0 8)) 13 (va_cpy (O.2.1 13) (S.2.1 13) 0 0 3)) 14 (va_cpy (O.2.1 14) (S.2.1 14) 0 0 3)), cX8 cy adO O]) (ci := 1) (k0 := 9) (cj := 0) (k1 := 9) hx hb (by rw [hml]; exact hl.1.symm) hown (hts _ wm_43_6) hts hK hP hD hS rfl cX8_a14 rfl cX8_a14 rfl rfl (by decide) (by decide) (by decide) (by decide) (by decide) (by decide) (Nat.le_of_ble_eq_true rfl) cX8_w14 rfl dX8_copy_176 (fun H locs hP hD hS => ?_)
  refine lv_aload_n hx hb dX8_copy_179 rfl (lv_at hl 1 rfl) ?_
  refine go_8_59 (ci := 1) hx hb hts hown hK hE hP rfl dX8_copy_180 ?_
  refine lv_iconst (v := 0) hx hb dX8_copy_183 (by decide) ?_
  refine lv_aload_n hx hb dX8_copy_184 rfl (lv_at hl 0 rfl) ?_
  refine go_8_59 (ci := 0) hx hb hts hown hK hE hP rfl dX8_copy_185 ?_
  refine lv_iconst (v := 0) hx hb dX8_copy_188 (by decide) ?_
  refine lv_iconst (v := 3) hx hb dX8_copy_189 (by decide) ?_
  refine cpW (f := O.2.1 15) (g := S.2.1 15) (cs' := [cX8 cy adS (sw (sw (sw (sw (sw (sw (sw (sw (sw (sw (si (si (si (si (si (si S 0 (O.1 0)) 1 (O.1 1)) 9 (O.1 9)) 10 (O.1 10)) 11 (O.1 11)) 12 (O.1 12)) 2 (va_cpy (O.2.1 2) (S.2.1 2) 0 0 8)) 3 (va_cpy (O.2.1 3) (S.2.1 3) 0 0 3)) 4 (va_cpy (O.2.1 4) (S.2.1 4) 0 0 3)) 5 (va_cpy (O.2.1 5) (S.2.1 5) 0 0 8)) 6 (va_cpy (O.2.1 6) (S.2.1 6) 0 0 8)) 7 (va_cpy (O.2.1 7) (S.2.1 7) 0 0 8)) 8 (va_cpy (O.2.1 8) (S.2.1 8) 0 0 8)) 13 (va_cpy (O.2.1 13) (S.2.1 13) 0 0 3)) 14 (va_cpy (O.2.1 14) (S.2.1 14) 0 0 3)) 15 (va_cpy (O.2.1 15) (S.2.1 15) 0 0 3)), cX8 cy adO O]) (ci := 1) (k0 := 10) (cj := 0) (k1 := 10) hx hb (by rw [hml]; exact hl.1.symm) hown (hts _ wm_43_6) hts hK hP hD hS rfl cX8_a15 rfl cX8_a15 rfl rfl (by decide) (by decide) (by decide) (by decide) (by decide) (by decide) (Nat.le_of_ble_eq_true rfl) cX8_w15 rfl dX8_copy_190 (fun H locs hP hD hS => ?_)
  refine lv_aload_n hx hb dX8_copy_193 rfl (lv_at hl 1 rfl) ?_
  refine go_8_62 (ci := 1) hx hb hts hown hK hE hP rfl dX8_copy_194 ?_
  refine lv_iconst (v := 0) hx hb dX8_copy_197 (by decide) ?_
  refine lv_aload_n hx hb dX8_copy_198 rfl (lv_at hl 0 rfl) ?_
  refine go_8_62 (ci := 0) hx hb hts hown hK hE hP rfl dX8_copy_199 ?_
  refine lv_iconst (v := 0) hx hb dX8_copy_202 (by decide) ?_
  refine lv_iconst (v := 3) hx hb dX8_copy_203 (by decide) ?_
  refine cpW (f := O.2.1 16) (g := S.2.1 16) (cs' := [cX8 cy adS (sw (sw (sw (sw (sw (sw (sw (sw (sw (sw (sw (si (si (si (si (si (si S 0 (O.1 0)) 1 (O.1 1)) 9 (O.1 9)) 10 (O.1 10)) 11 (O.1 11)) 12 (O.1 12)) 2 (va_cpy (O.2.1 2) (S.2.1 2) 0 0 8)) 3 (va_cpy (O.2.1 3) (S.2.1 3) 0 0 3)) 4 (va_cpy (O.2.1 4) (S.2.1 4) 0 0 3)) 5 (va_cpy (O.2.1 5) (S.2.1 5) 0 0 8)) 6 (va_cpy (O.2.1 6) (S.2.1 6) 0 0 8)) 7 (va_cpy (O.2.1 7) (S.2.1 7) 0 0 8)) 8 (va_cpy (O.2.1 8) (S.2.1 8) 0 0 8)) 13 (va_cpy (O.2.1 13) (S.2.1 13) 0 0 3)) 14 (va_cpy (O.2.1 14) (S.2.1 14) 0 0 3)) 15 (va_cpy (O.2.1 15) (S.2.1 15) 0 0 3)) 16 (va_cpy (O.2.1 16) (S.2.1 16) 0 0 3)), cX8 cy adO O]) (ci := 1) (k0 := 11) (cj := 0) (k1 := 11) hx hb (by rw [hml]; exact hl.1.symm) hown (hts _ wm_43_6) hts hK hP hD hS rfl cX8_a16 rfl cX8_a16 rfl rfl (by decide) (by decide) (by decide) (by decide) (by decide) (by decide) (Nat.le_of_ble_eq_true rfl) cX8_w16 rfl dX8_copy_204 (fun H locs hP hD hS => ?_)
  refine lv_aload_n hx hb dX8_copy_207 rfl (lv_at hl 1 rfl) ?_
  refine go_8_65 (ci := 1) hx hb hts hown hK hE hP rfl dX8_copy_208 ?_
  refine lv_iconst (v := 0) hx hb dX8_copy_211 (by decide) ?_
  refine lv_aload_n hx hb dX8_copy_212 rfl (lv_at hl 0 rfl) ?_
  refine go_8_65 (ci := 0) hx hb hts hown hK hE hP rfl dX8_copy_213 ?_
  refine lv_iconst (v := 0) hx hb dX8_copy_216 (by decide) ?_
  refine lv_iconst (v := 3) hx hb dX8_copy_217 (by decide) ?_
  refine cpW (f := O.2.1 17) (g := S.2.1 17) (cs' := [cX8 cy adS (sw (sw (sw (sw (sw (sw (sw (sw (sw (sw (sw (sw (si (si (si (si (si (si S 0 (O.1 0)) 1 (O.1 1)) 9 (O.1 9)) 10 (O.1 10)) 11 (O.1 11)) 12 (O.1 12)) 2 (va_cpy (O.2.1 2) (S.2.1 2) 0 0 8)) 3 (va_cpy (O.2.1 3) (S.2.1 3) 0 0 3)) 4 (va_cpy (O.2.1 4) (S.2.1 4) 0 0 3)) 5 (va_cpy (O.2.1 5) (S.2.1 5) 0 0 8)) 6 (va_cpy (O.2.1 6) (S.2.1 6) 0 0 8)) 7 (va_cpy (O.2.1 7) (S.2.1 7) 0 0 8)) 8 (va_cpy (O.2.1 8) (S.2.1 8) 0 0 8)) 13 (va_cpy (O.2.1 13) (S.2.1 13) 0 0 3)) 14 (va_cpy (O.2.1 14) (S.2.1 14) 0 0 3)) 15 (va_cpy (O.2.1 15) (S.2.1 15) 0 0 3)) 16 (va_cpy (O.2.1 16) (S.2.1 16) 0 0 3)) 17 (va_cpy (O.2.1 17) (S.2.1 17) 0 0 3)), cX8 cy adO O]) (ci := 1) (k0 := 12) (cj := 0) (k1 := 12) hx hb (by rw [hml]; exact hl.1.symm) hown (hts _ wm_43_6) hts hK hP hD hS rfl cX8_a17 rfl cX8_a17 rfl rfl (by decide) (by decide) (by decide) (by decide) (by decide) (by decide) (Nat.le_of_ble_eq_true rfl) cX8_w17 rfl dX8_copy_218 (fun H locs hP hD hS => ?_)
  exact retV (fw := fun q => wj [cX8 cy adS q, cX8 cy adO O]) h hx hb hr hlocks hK hP hD hS dX8_copy_221
theorem hds_X8_personsFor : yX8_personsFor.cls ≠ "java/lang/invoke/MethodHandle" ∧ yX8_personsFor.cls ≠ "java/lang/invoke/VarHandle" ∧ (parseMethodDescriptor yX8_personsFor.desc).map (fun d => d.parameters.length) = some 2 := ⟨by decide +kernel, by decide +kernel, by decide +kernel⟩
theorem hd_X8_personsFor : yX8_personsFor.cls = RX8 ∧ yX8_personsFor.cls ≠ "java/lang/invoke/MethodHandle" ∧ yX8_personsFor.cls ≠ "java/lang/invoke/VarHandle" ∧ (parseMethodDescriptor yX8_personsFor.desc).map (fun d => d.parameters.length) = some 2 := ⟨rfl, hds_X8_personsFor⟩
def f_X8_personsFor_b35 (N : Nat) (S : VV) (P : VV) (x1 : Int32) (x3 : Int32) (x4 : Int32) : Option (((Int32 × Int32) ⊕ (Int32))) :=
  some (.inl (x3, x4 + 1))
def f_X8_personsFor_s5 (N : Nat) (S : VV) (P : VV) (x1 : Int32) (x3 : Int32) (x4 : Int32) : Option (((Int32 × Int32) ⊕ (Int32))) :=
  if P.1 0 ≤ x4 then inrO (some x3) else gin x4 8 (if S.2.1 2 x4.toNatClampNeg = x1 then bnd (f_X6_trait P x4 0) (fun q501 => f_X8_personsFor_b35 N S P x1 (x3 + q501) x4) else f_X8_personsFor_b35 N S P x1 x3 x4)
def f_X8_personsFor (N : Nat) (S : VV) (P : VV) (a1 : Int32) : Option (Int32) :=
  itr (fun q : Int32 × Int32 => f_X8_personsFor_s5 N S P a1 q.1 q.2) N (0, 0)
set_option maxHeartbeats 4000000 in
set_option maxRecDepth 100000 in
theorem k_X8_personsFor (l : Launch) (G : va_G) (cy : Nat → ClassId) (ev : Nat → Nat) (N : Nat) (adS : Nat → Nat) (S : VV) (adP : Nat → Nat) (rL : Nat) (P : VV) (a1 : Int32) (res : Int32) (h : f_X8_personsFor N S P a1 = some res) : MetI l yX8_personsFor cX8_personsFor 5 (some .int) 1 22 G cy ev [.ref (adS 0), .int a1, .ref (adP 0)] (wj [cX8 cy adS S, cX6 cy adP rL P]) res (wj [cX8 cy adS S, cX6 cy adP rL P]) := by
  refine MetQ.start (by decide +kernel) (Nat.le_of_ble_eq_true rfl) (fun p e s m args below meth c A ls hx hb hr hml hown hts hlocks hK hP hD hA hl hE => ?_)
  have hS : va_S A s.heap s.heap [] := va_S.rf
  have hown : s.vm.findClass RX8 = some m.cls := hown
  have hl : lv_has ls 5 [(0, .ref (adS 0)), (1, .int a1), (2, .ref (adP 0))] := hl
  have L5 : ∀ (x1 : Int32) (n : Nat) (x3 : Int32) (x4 : Int32) (H : Heap) (locs : List Loc) (ls : Array Slot), itr (fun q : Int32 × Int32 => f_X8_personsFor_s5 N S P x1 q.1 q.2) n (x3, x4) = some res → va_P G vwCl (wj [cX8 cy adS S, cX6 cy adP rL P]) H → va_D A (wj [cX8 cy adS S, cX6 cy adP rL P]) → va_S A s.heap H locs → lv_has ls 5 [(0, .ref (adS 0)), (1, .int x1), (2, .ref (adP 0)), (3, .int x3), (4, .int x4)] → W p l e (rmX 1 22) s m args below meth c H locs 0 0 (MQ below (mQi (res) G cy A (wj [cX8 cy adS S, cX6 cy adP rL P])) args s 0 0 A) (F0 m 5 ls []) := by
    intro x1 n
    induction n with
    | zero => intro x3 x4 H locs ls h; exact (itr_zero h).elim
    | succ n ih1 =>
      intro x3 x4 H locs ls h hP hD hS hl
      obtain ⟨y1, h, hy1⟩ := itr_inv h
      have h : f_X8_personsFor_s5 N S P x1 x3 x4 = some y1 := h
      have B35 : ∀ (x3 : Int32) (x4 : Int32) (H : Heap) (locs : List Loc) (ls : Array Slot), f_X8_personsFor_b35 N S P x1 x3 x4 = some y1 → va_P G vwCl (wj [cX8 cy adS S, cX6 cy adP rL P]) H → va_D A (wj [cX8 cy adS S, cX6 cy adP rL P]) → va_S A s.heap H locs → lv_has ls 5 [(0, .ref (adS 0)), (1, .int x1), (2, .ref (adP 0)), (3, .int x3), (4, .int x4)] → W p l e (rmX 1 22) s m args below meth c H locs 0 0 (MQ below (mQi (res) G cy A (wj [cX8 cy adS S, cX6 cy adP rL P])) args s 0 0 A) (F0 m 35 ls []) := by
        intro x3 x4 H locs ls h hP hD hS hl
        delta f_X8_personsFor_b35 at h
        refine lv_iinc (v := x4 + 1) (lv' := [(4, .int (x4 + 1)), (0, .ref (adS 0)), (1, .int x1), (2, .ref (adP 0)), (3, .int x3)]) hx hb dX8_personsFor_35 hl (k := 4) rfl rfl (by decide) rfl (fun ls hl => ?_)
        refine lv_goto (tgt := 5) hx hb dX8_personsFor_38 (by decide) ?_
        replace h := itr_back h hy1
        exact ih1 x3 (x4 + 1) _ _ _ h hP hD hS (lv_sub hl [1, 2, 3, 4, 0] rfl)
      delta f_X8_personsFor_s5 at h
      refine lv_iload hx hb dX8_personsFor_5 (lv_at hl 4 rfl) ?_
      refine lv_aload_n hx hb dX8_personsFor_7 rfl (lv_at hl 2 rfl) ?_
      refine go_8_86 (ci := 1) (x := P.1 0) hx hb hts hown hK hE hP rfl rfl dX8_personsFor_8 ?_
      refine lv_icmp_ge (tgt := 41) hx hb dX8_personsFor_11 (by decide) (fun c9 => ?_) (fun c9 => ?_)
      · replace h := (br h).1 c9
        replace h := itr_exit h hy1
        refine lv_iload_n hx hb dX8_personsFor_41 rfl (lv_at hl 3 rfl) ?_
        exact retI (fr := fun q => q) (fw := fun _ => wj [cX8 cy adS S, cX6 cy adP rL P]) h hx hb hr hlocks hK hP hD hS dX8_personsFor_42
      · replace h := (br h).2 c9
        refine lv_aload_n hx hb dX8_personsFor_14 rfl (lv_at hl 0 rfl) ?_
        refine go_8_18 (ci := 0) hx hb hts hown hK hE hP rfl dX8_personsFor_15 ?_
        refine lv_iload hx hb dX8_personsFor_18 (lv_at hl 4 rfl) ?_
        replace h := gin_inv h
        obtain ⟨h9, h⟩ := h
        refine ldWI (ci := 0) (k0 := 1) (g := S.2.1 2) (j := x4.toNatClampNeg) hx hb hK hP rfl cX8_a2 rfl h9 rfl dX8_personsFor_20 ?_
        refine lv_iload_n hx hb dX8_personsFor_21 rfl (lv_at hl 1 rfl) ?_
        refine lv_icmp_ne (tgt := 35) hx hb dX8_personsFor_22 (by decide) (fun c9 => ?_) (fun c9 => ?_)
        · replace h := (br h).2 c9
          exact B35 x3 x4 _ _ _ h hP hD hS (lv_sub hl [0, 1, 2, 3, 4] rfl)
        · replace h := (br h).1 c9
          refine lv_iload_n hx hb dX8_personsFor_25 rfl (lv_at hl 3 rfl) ?_
          refine lv_aload_n hx hb dX8_personsFor_26 rfl (lv_at hl 2 rfl) ?_
          refine lv_iload hx hb dX8_personsFor_27 (lv_at hl 4 rfl) ?_
          refine lv_iconst (v := 0) hx hb dX8_personsFor_29 (by decide) ?_
          replace h := bd h
          obtain ⟨q501, h502, h⟩ := h
          refine callWVi (As := [.int x4, .int 0]) (rest := [.int x3]) (cs' := [cX8 cy adS S, cX6 cy adP rL P]) (isC := [1]) (isR := [0]) hx hb hml hown hts (k_X6_trait l G cy ev adP rL P x4 0 q501 h502) wm_28_3 wm_26_16 wm_26_17 wm_1_22 wm_26_18 hd_X6_trait ⟨by decide, by decide⟩ hK hP hD hS hA hE rfl rfl rfl (cov_of (n := 2) rfl (by decide)) (by decide) rfl (recvW (ci := 1) hK hP rfl cX6_o rfl) rfl rfl hl.1 (Nat.le_of_ble_eq_true rfl) dX8_personsFor_30 (fun H locs hP hD hS => ?_)
          refine lv_iadd hx hb dX8_personsFor_33 ?_
          refine lv_istore_n (lv' := [(3, .int (x3 + q501)), (0, .ref (adS 0)), (1, .int x1), (2, .ref (adP 0)), (4, .int x4)]) hx hb dX8_personsFor_34 rfl hl (by decide) rfl (fun ls hl => ?_)
          exact B35 (x3 + q501) x4 _ _ _ h hP hD hS (lv_sub hl [1, 2, 3, 0, 4] rfl)
  delta f_X8_personsFor at h
  refine lv_iconst (v := 0) hx hb dX8_personsFor_0 (by decide) ?_
  refine lv_istore_n (lv' := [(3, .int 0), (0, .ref (adS 0)), (1, .int a1), (2, .ref (adP 0))]) hx hb dX8_personsFor_1 rfl hl (by decide) rfl (fun ls hl => ?_)
  refine lv_iconst (v := 0) hx hb dX8_personsFor_2 (by decide) ?_
  refine lv_istore (lv' := [(4, .int 0), (3, .int 0), (0, .ref (adS 0)), (1, .int a1), (2, .ref (adP 0))]) hx hb dX8_personsFor_3 hl (by decide) rfl (fun ls hl => ?_)
  exact L5 a1 N 0 0 _ _ _ h hP hD hS (lv_sub hl [2, 3, 4, 1, 0] rfl)
theorem hds_X8_isAnyLate : yX8_isAnyLate.cls ≠ "java/lang/invoke/MethodHandle" ∧ yX8_isAnyLate.cls ≠ "java/lang/invoke/VarHandle" ∧ (parseMethodDescriptor yX8_isAnyLate.desc).map (fun d => d.parameters.length) = some 1 := ⟨by decide +kernel, by decide +kernel, by decide +kernel⟩
theorem hd_X8_isAnyLate : yX8_isAnyLate.cls = RX8 ∧ yX8_isAnyLate.cls ≠ "java/lang/invoke/MethodHandle" ∧ yX8_isAnyLate.cls ≠ "java/lang/invoke/VarHandle" ∧ (parseMethodDescriptor yX8_isAnyLate.desc).map (fun d => d.parameters.length) = some 1 := ⟨rfl, hds_X8_isAnyLate⟩
def f_X8_isAnyLate_s2 (N : Nat) (S : VV) (x1 : Int32) (x2 : Int32) : Option (((Int32) ⊕ (Int32))) :=
  if x1 ≤ x2 then inrO (some 0) else if (3 : Int32) ≤ x2 then inrO (some 0) else gin x2 3 (if S.2.1 14 x2.toNatClampNeg ≤ 0 then some (.inl (x2 + 1)) else inrO (some 1))
def f_X8_isAnyLate (N : Nat) (S : VV) (a1 : Int32) : Option (Int32) :=
  itr (fun q : Int32 => f_X8_isAnyLate_s2 N S a1 q) N 0
set_option maxHeartbeats 4000000 in
set_option maxRecDepth 100000 in
theorem k_X8_isAnyLate (l : Launch) (G : va_G) (cy : Nat → ClassId) (ev : Nat → Nat) (N : Nat) (adS : Nat → Nat) (S : VV) (a1 : Int32) (res : Int32) (h : f_X8_isAnyLate N S a1 = some res) : MetI l yX8_isAnyLate cX8_isAnyLate 3 (some .boolean) 0 0 G cy ev [.ref (adS 0), .int a1] (wj [cX8 cy adS S]) res (wj [cX8 cy adS S]) := by
  refine MetQ.start (by decide +kernel) (Nat.le_of_ble_eq_true rfl) (fun p e s m args below meth c A ls hx hb hr hml hown hts hlocks hK hP hD hA hl hE => ?_)
  have hS : va_S A s.heap s.heap [] := va_S.rf
  have hown : s.vm.findClass RX8 = some m.cls := hown
  have hl : lv_has ls 3 [(0, .ref (adS 0)), (1, .int a1)] := hl
  have L2 : ∀ (x1 : Int32) (n : Nat) (x2 : Int32) (H : Heap) (locs : List Loc) (ls : Array Slot), itr (fun q : Int32 => f_X8_isAnyLate_s2 N S x1 q) n x2 = some res → va_P G vwCl (wj [cX8 cy adS S]) H → va_D A (wj [cX8 cy adS S]) → va_S A s.heap H locs → lv_has ls 3 [(0, .ref (adS 0)), (1, .int x1), (2, .int x2)] → W p l e (rmX 0 0) s m args below meth c H locs 0 0 (MQ below (mQi (res) G cy A (wj [cX8 cy adS S])) args s 0 0 A) (F0 m 2 ls []) := by
    intro x1 n
    induction n with
    | zero => intro x2 H locs ls h; exact (itr_zero h).elim
    | succ n ih1 =>
      intro x2 H locs ls h hP hD hS hl
      obtain ⟨y1, h, hy1⟩ := itr_inv h
      have h : f_X8_isAnyLate_s2 N S x1 x2 = some y1 := h
      delta f_X8_isAnyLate_s2 at h
      refine lv_iload_n hx hb dX8_isAnyLate_2 rfl (lv_at hl 2 rfl) ?_
      refine lv_iload_n hx hb dX8_isAnyLate_3 rfl (lv_at hl 1 rfl) ?_
      refine lv_icmp_ge (tgt := 29) hx hb dX8_isAnyLate_4 (by decide) (fun c9 => ?_) (fun c9 => ?_)
      · replace h := (br h).1 c9
        replace h := itr_exit h hy1
        refine lv_iconst (v := 0) hx hb dX8_isAnyLate_29 (by decide) ?_
        exact retZ (fr := fun q => q) (fw := fun _ => wj [cX8 cy adS S]) h hx hb hr narZ0 hlocks hK hP hD hS dX8_isAnyLate_30
      · replace h := (br h).2 c9
        refine lv_iload_n hx hb dX8_isAnyLate_7 rfl (lv_at hl 2 rfl) ?_
        refine lv_iconst (v := 3) hx hb dX8_isAnyLate_8 (by decide) ?_
        refine lv_icmp_ge (tgt := 29) hx hb dX8_isAnyLate_9 (by decide) (fun c9 => ?_) (fun c9 => ?_)
        · replace h := (br h).1 c9
          replace h := itr_exit h hy1
          refine lv_iconst (v := 0) hx hb dX8_isAnyLate_29 (by decide) ?_
          exact retZ (fr := fun q => q) (fw := fun _ => wj [cX8 cy adS S]) h hx hb hr narZ0 hlocks hK hP hD hS dX8_isAnyLate_30
        · replace h := (br h).2 c9
          refine lv_aload_n hx hb dX8_isAnyLate_12 rfl (lv_at hl 0 rfl) ?_
          refine go_8_56 (ci := 0) hx hb hts hown hK hE hP rfl dX8_isAnyLate_13 ?_
          refine lv_iload_n hx hb dX8_isAnyLate_16 rfl (lv_at hl 2 rfl) ?_
          replace h := gin_inv h
          obtain ⟨h9, h⟩ := h
          refine ldWI (ci := 0) (k0 := 9) (g := S.2.1 14) (j := x2.toNatClampNeg) hx hb hK hP rfl cX8_a14 rfl h9 rfl dX8_isAnyLate_17 ?_
          refine lv_if_le (tgt := 23) hx hb dX8_isAnyLate_18 (by decide) (fun c9 => ?_) (fun c9 => ?_)
          · replace h := (br h).1 c9
            refine lv_iinc (v := x2 + 1) (lv' := [(2, .int (x2 + 1)), (0, .ref (adS 0)), (1, .int x1)]) hx hb dX8_isAnyLate_23 hl (k := 2) rfl rfl (by decide) rfl (fun ls hl => ?_)
            refine lv_goto (tgt := 2) hx hb dX8_isAnyLate_26 (by decide) ?_
            replace h := itr_back h hy1
            exact ih1 (x2 + 1) _ _ _ h hP hD hS (lv_sub hl [1, 2, 0] rfl)
          · replace h := (br h).2 c9
            replace h := itr_exit h hy1
            refine lv_iconst (v := 1) hx hb dX8_isAnyLate_21 (by decide) ?_
            exact retZ (fr := fun q => q) (fw := fun _ => wj [cX8 cy adS S]) h hx hb hr narZ1 hlocks hK hP hD hS dX8_isAnyLate_22
  delta f_X8_isAnyLate at h
  refine lv_iconst (v := 0) hx hb dX8_isAnyLate_0 (by decide) ?_
  refine lv_istore_n (lv' := [(2, .int 0), (0, .ref (adS 0)), (1, .int a1)]) hx hb dX8_isAnyLate_1 rfl hl (by decide) rfl (fun ls hl => ?_)
  exact L2 a1 N 0 _ _ _ h hP hD hS (lv_sub hl [1, 2, 0] rfl)
theorem hds_X8_crossInAll : yX8_crossInAll.cls ≠ "java/lang/invoke/MethodHandle" ∧ yX8_crossInAll.cls ≠ "java/lang/invoke/VarHandle" ∧ (parseMethodDescriptor yX8_crossInAll.desc).map (fun d => d.parameters.length) = some 0 := ⟨by decide +kernel, by decide +kernel, by decide +kernel⟩
theorem hd_X8_crossInAll : yX8_crossInAll.cls = RX8 ∧ yX8_crossInAll.cls ≠ "java/lang/invoke/MethodHandle" ∧ yX8_crossInAll.cls ≠ "java/lang/invoke/VarHandle" ∧ (parseMethodDescriptor yX8_crossInAll.desc).map (fun d => d.parameters.length) = some 0 := ⟨rfl, hds_X8_crossInAll⟩
def f_X8_crossInAll_s4 (N : Nat) (S : VV) (x1 : Int32) (x2 : Int32) : Option (((Int32 × Int32) ⊕ (Int32))) :=
  if (8 : Int32) ≤ x2 then inrO (some x1) else gin x2 8 (some (.inl (x1 + (S.2.1 6 x2.toNatClampNeg), x2 + 1)))
def f_X8_crossInAll (N : Nat) (S : VV) : Option (Int32) :=
  itr (fun q : Int32 × Int32 => f_X8_crossInAll_s4 N S q.1 q.2) N (0, 0)
set_option maxHeartbeats 4000000 in
set_option maxRecDepth 100000 in
theorem k_X8_crossInAll (l : Launch) (G : va_G) (cy : Nat → ClassId) (ev : Nat → Nat) (N : Nat) (adS : Nat → Nat) (S : VV)  (res : Int32) (h : f_X8_crossInAll N S = some res) : MetI l yX8_crossInAll cX8_crossInAll 3 (some .int) 0 0 G cy ev [.ref (adS 0)] (wj [cX8 cy adS S]) res (wj [cX8 cy adS S]) := by
  refine MetQ.start (by decide +kernel) (Nat.le_of_ble_eq_true rfl) (fun p e s m args below meth c A ls hx hb hr hml hown hts hlocks hK hP hD hA hl hE => ?_)
  have hS : va_S A s.heap s.heap [] := va_S.rf
  have hown : s.vm.findClass RX8 = some m.cls := hown
  have hl : lv_has ls 3 [(0, .ref (adS 0))] := hl
  have L4 : ∀ (n : Nat) (x1 : Int32) (x2 : Int32) (H : Heap) (locs : List Loc) (ls : Array Slot), itr (fun q : Int32 × Int32 => f_X8_crossInAll_s4 N S q.1 q.2) n (x1, x2) = some res → va_P G vwCl (wj [cX8 cy adS S]) H → va_D A (wj [cX8 cy adS S]) → va_S A s.heap H locs → lv_has ls 3 [(0, .ref (adS 0)), (1, .int x1), (2, .int x2)] → W p l e (rmX 0 0) s m args below meth c H locs 0 0 (MQ below (mQi (res) G cy A (wj [cX8 cy adS S])) args s 0 0 A) (F0 m 4 ls []) := by
    intro n
    induction n with
    | zero => intro x1 x2 H locs ls h; exact (itr_zero h).elim
    | succ n ih1 =>
      intro x1 x2 H locs ls h hP hD hS hl
      obtain ⟨y1, h, hy1⟩ := itr_inv h
      have h : f_X8_crossInAll_s4 N S x1 x2 = some y1 := h
      delta f_X8_crossInAll_s4 at h
      refine lv_iload_n hx hb dX8_crossInAll_4 rfl (lv_at hl 2 rfl) ?_
      refine lv_bipush (v := 8) hx hb dX8_crossInAll_5 (by decide) ?_
      refine lv_icmp_ge (tgt := 25) hx hb dX8_crossInAll_7 (by decide) (fun c9 => ?_) (fun c9 => ?_)
      · replace h := (br h).1 c9
        replace h := itr_exit h hy1
        refine lv_iload_n hx hb dX8_crossInAll_25 rfl (lv_at hl 1 rfl) ?_
        exact retI (fr := fun q => q) (fw := fun _ => wj [cX8 cy adS S]) h hx hb hr hlocks hK hP hD hS dX8_crossInAll_26
      · replace h := (br h).2 c9
        refine lv_iload_n hx hb dX8_crossInAll_10 rfl (lv_at hl 1 rfl) ?_
        refine lv_aload_n hx hb dX8_crossInAll_11 rfl (lv_at hl 0 rfl) ?_
        refine go_8_31 (ci := 0) hx hb hts hown hK hE hP rfl dX8_crossInAll_12 ?_
        refine lv_iload_n hx hb dX8_crossInAll_15 rfl (lv_at hl 2 rfl) ?_
        replace h := gin_inv h
        obtain ⟨h9, h⟩ := h
        refine ldWI (ci := 0) (k0 := 5) (g := S.2.1 6) (j := x2.toNatClampNeg) hx hb hK hP rfl cX8_a6 rfl h9 rfl dX8_crossInAll_16 ?_
        refine lv_iadd hx hb dX8_crossInAll_17 ?_
        refine lv_istore_n (lv' := [(1, .int (x1 + (S.2.1 6 x2.toNatClampNeg))), (0, .ref (adS 0)), (2, .int x2)]) hx hb dX8_crossInAll_18 rfl hl (by decide) rfl (fun ls hl => ?_)
        refine lv_iinc (v := x2 + 1) (lv' := [(2, .int (x2 + 1)), (1, .int (x1 + (S.2.1 6 x2.toNatClampNeg))), (0, .ref (adS 0))]) hx hb dX8_crossInAll_19 hl (k := 2) rfl rfl (by decide) rfl (fun ls hl => ?_)
        refine lv_goto (tgt := 4) hx hb dX8_crossInAll_22 (by decide) ?_
        replace h := itr_back h hy1
        exact ih1 (x1 + (S.2.1 6 x2.toNatClampNeg)) (x2 + 1) _ _ _ h hP hD hS (lv_sub hl [2, 1, 0] rfl)
  delta f_X8_crossInAll at h
  refine lv_iconst (v := 0) hx hb dX8_crossInAll_0 (by decide) ?_
  refine lv_istore_n (lv' := [(1, .int 0), (0, .ref (adS 0))]) hx hb dX8_crossInAll_1 rfl hl (by decide) rfl (fun ls hl => ?_)
  refine lv_iconst (v := 0) hx hb dX8_crossInAll_2 (by decide) ?_
  refine lv_istore_n (lv' := [(2, .int 0), (1, .int 0), (0, .ref (adS 0))]) hx hb dX8_crossInAll_3 rfl hl (by decide) rfl (fun ls hl => ?_)
  exact L4  N 0 0 _ _ _ h hP hD hS (lv_sub hl [2, 1, 0] rfl)
theorem hds_X8_draw : yX8_draw.cls ≠ "java/lang/invoke/MethodHandle" ∧ yX8_draw.cls ≠ "java/lang/invoke/VarHandle" ∧ (parseMethodDescriptor yX8_draw.desc).map (fun d => d.parameters.length) = some 0 := ⟨by decide +kernel, by decide +kernel, by decide +kernel⟩
theorem hd_X8_draw : yX8_draw.cls = RX8 ∧ yX8_draw.cls ≠ "java/lang/invoke/MethodHandle" ∧ yX8_draw.cls ≠ "java/lang/invoke/VarHandle" ∧ (parseMethodDescriptor yX8_draw.desc).map (fun d => d.parameters.length) = some 0 := ⟨rfl, hds_X8_draw⟩
def f_X8_draw (S : VV) : Option (Int32 × VV) :=
  some (((((S.1 1) * 1103515245) + 12345) &&& 2147483647) / 65536, si S 1 ((((S.1 1) * 1103515245) + 12345) &&& 2147483647))
set_option maxHeartbeats 4000000 in
set_option maxRecDepth 100000 in
theorem k_X8_draw (l : Launch) (G : va_G) (cy : Nat → ClassId) (ev : Nat → Nat) (adS : Nat → Nat) (S : VV)  (res : Int32 × VV) (h : f_X8_draw S = some res) : MetI l yX8_draw cX8_draw 1 (some .int) 0 0 G cy ev [.ref (adS 0)] (wj [cX8 cy adS S]) res.1 (wj [cX8 cy adS res.2]) := by
  refine MetQ.start (by decide +kernel) (Nat.le_of_ble_eq_true rfl) (fun p e s m args below meth c A ls hx hb hr hml hown hts hlocks hK hP hD hA hl hE => ?_)
  have hS : va_S A s.heap s.heap [] := va_S.rf
  have hown : s.vm.findClass RX8 = some m.cls := hown
  have hl : lv_has ls 1 [(0, .ref (adS 0))] := hl
  delta f_X8_draw at h
  refine lv_aload_n hx hb dX8_draw_0 rfl (lv_at hl 0 rfl) ?_
  refine lv_aload_n hx hb dX8_draw_1 rfl (lv_at hl 0 rfl) ?_
  refine go_8_15 (ci := 0) (x := S.1 1) hx hb hts hown hK hE hP rfl rfl dX8_draw_2 ?_
  refine lv_ldc (v := (1103515245)) hx hb hown (hts _ wm_34_22) dX8_draw_5 ?_
  refine lv_imul hx hb dX8_draw_7 ?_
  refine lv_sipush (v := 12345) hx hb dX8_draw_8 (by decide) ?_
  refine lv_iadd hx hb dX8_draw_11 ?_
  refine lv_ldc (v := (2147483647)) hx hb hown (hts _ wm_34_23) dX8_draw_12 ?_
  refine lv_iand hx hb dX8_draw_14 ?_
  refine po_8_15 (ci := 0) (cs' := [cX8 cy adS (si S 1 ((((S.1 1) * 1103515245) + 12345) &&& 2147483647))]) hx hb hts hown hK hE hP hD hS rfl rfl dX8_draw_15 (fun H locs hP hD hS => ?_)
  refine lv_aload_n hx hb dX8_draw_18 rfl (lv_at hl 0 rfl) ?_
  refine go_8_15 (ci := 0) (x := (((S.1 1) * 1103515245) + 12345) &&& 2147483647) hx hb hts hown hK hE hP rfl rfl dX8_draw_19 ?_
  refine lv_ldc (v := (65536)) hx hb hown (hts _ wm_35_0) dX8_draw_22 ?_
  refine lv_idiv hx hb dX8_draw_24 (by decide) ?_
  exact retI (fr := fun q => q.1) (fw := fun q => wj [cX8 cy adS q.2]) h hx hb hr hlocks hK hP hD hS dX8_draw_25
theorem hds_X10_reset : yX10_reset.cls ≠ "java/lang/invoke/MethodHandle" ∧ yX10_reset.cls ≠ "java/lang/invoke/VarHandle" ∧ (parseMethodDescriptor yX10_reset.desc).map (fun d => d.parameters.length) = some 0 := ⟨by decide +kernel, by decide +kernel, by decide +kernel⟩
theorem hd_X10_reset : yX10_reset.cls = RX10 ∧ yX10_reset.cls ≠ "java/lang/invoke/MethodHandle" ∧ yX10_reset.cls ≠ "java/lang/invoke/VarHandle" ∧ (parseMethodDescriptor yX10_reset.desc).map (fun d => d.parameters.length) = some 0 := ⟨rfl, hds_X10_reset⟩
def f_X10_reset_s37 (N : Nat) (Y : VV) (x1 : Int32) : Option (((Int32 × VV) ⊕ (VV))) :=
  if (3 : Int32) ≤ x1 then inrO (some Y) else gin x1 3 (some (.inl (x1 + 1, sr Y 7 x1.toNatClampNeg 0)))
def f_X10_reset (N : Nat) (Y : VV) : Option (VV) :=
  itr (fun q : Int32 × VV => f_X10_reset_s37 N q.2 q.1) N (0, si (si (si (si (si (si (si Y 0 0) 1 0) 2 0) 3 ((-1))) 4 ((-1))) 5 0) 6 0)
set_option maxHeartbeats 4000000 in
set_option maxRecDepth 100000 in
theorem k_X10_reset (l : Launch) (G : va_G) (cy : Nat → ClassId) (ev : Nat → Nat) (N : Nat) (adY : Nat → Nat) (Y : VV)  (res : VV) (h : f_X10_reset N Y = some res) : MetV l yX10_reset cX10_reset 2 none 0 0 G cy ev [.ref (adY 0)] (wj [cX10 cy adY Y]) (wj [cX10 cy adY res]) := by
  refine MetQ.start (by decide +kernel) (Nat.le_of_ble_eq_true rfl) (fun p e s m args below meth c A ls hx hb hr hml hown hts hlocks hK hP hD hA hl hE => ?_)
  have hS : va_S A s.heap s.heap [] := va_S.rf
  have hown : s.vm.findClass RX10 = some m.cls := hown
  have hl : lv_has ls 2 [(0, .ref (adY 0))] := hl
  have L37 : ∀ (n : Nat) (x1 : Int32) (Y : VV) (H : Heap) (locs : List Loc) (ls : Array Slot), itr (fun q : Int32 × VV => f_X10_reset_s37 N q.2 q.1) n (x1, Y) = some res → va_P G vwCl (wj [cX10 cy adY Y]) H → va_D A (wj [cX10 cy adY Y]) → va_S A s.heap H locs → lv_has ls 2 [(0, .ref (adY 0)), (1, .int x1)] → W p l e (rmX 0 0) s m args below meth c H locs 0 0 (MQ below (mQv G cy A (wj [cX10 cy adY res])) args s 0 0 A) (F0 m 37 ls []) := by
    intro n
    induction n with
    | zero => intro x1 Y H locs ls h; exact (itr_zero h).elim
    | succ n ih1 =>
      intro x1 Y H locs ls h hP hD hS hl
      obtain ⟨y1, h, hy1⟩ := itr_inv h
      have h : f_X10_reset_s37 N Y x1 = some y1 := h
      delta f_X10_reset_s37 at h
      refine lv_iload_n hx hb dX10_reset_37 rfl (lv_at hl 1 rfl) ?_
      refine lv_iconst (v := 3) hx hb dX10_reset_38 (by decide) ?_
      refine lv_icmp_ge (tgt := 55) hx hb dX10_reset_39 (by decide) (fun c9 => ?_) (fun c9 => ?_)
      · replace h := (br h).1 c9
        replace h := itr_exit h hy1
        exact retV (fw := fun q => wj [cX10 cy adY q]) h hx hb hr hlocks hK hP hD hS dX10_reset_55
      · replace h := (br h).2 c9
        refine lv_aload_n hx hb dX10_reset_42 rfl (lv_at hl 0 rfl) ?_
        refine go_10_34 (ci := 0) hx hb hts hown hK hE hP rfl dX10_reset_43 ?_
        refine lv_iload_n hx hb dX10_reset_46 rfl (lv_at hl 1 rfl) ?_
        refine lv_iconst (v := 0) hx hb dX10_reset_47 (by decide) ?_
        replace h := gin_inv h
        obtain ⟨h9, h⟩ := h
        refine stWI (ci := 0) (k0 := 1) (j := x1.toNatClampNeg) (cs' := [cX10 cy adY (sr Y 7 x1.toNatClampNeg 0)]) hx hb hK hP hD hS rfl cX10_a7 h9 rfl cX10_s7 rfl dX10_reset_48 (fun H locs hP hD hS => ?_)
        refine lv_iinc (v := x1 + 1) (lv' := [(1, .int (x1 + 1)), (0, .ref (adY 0))]) hx hb dX10_reset_49 hl (k := 1) rfl rfl (by decide) rfl (fun ls hl => ?_)
        refine lv_goto (tgt := 37) hx hb dX10_reset_52 (by decide) ?_
        replace h := itr_back h hy1
        exact ih1 (x1 + 1) (sr Y 7 x1.toNatClampNeg 0) _ _ _ h hP hD hS (lv_sub hl [1, 0] rfl)
  delta f_X10_reset at h
  refine lv_aload_n hx hb dX10_reset_0 rfl (lv_at hl 0 rfl) ?_
  refine lv_iconst (v := 0) hx hb dX10_reset_1 (by decide) ?_
  refine po_10_9 (ci := 0) (cs' := [cX10 cy adY (si Y 0 0)]) hx hb hts hown hK hE hP hD hS rfl rfl (by decide) dX10_reset_2 (fun H locs hP hD hS => ?_)
  refine lv_aload_n hx hb dX10_reset_5 rfl (lv_at hl 0 rfl) ?_
  refine lv_iconst (v := 0) hx hb dX10_reset_6 (by decide) ?_
  refine po_10_15 (ci := 0) (cs' := [cX10 cy adY (si (si Y 0 0) 1 0)]) hx hb hts hown hK hE hP hD hS rfl rfl (by decide) dX10_reset_7 (fun H locs hP hD hS => ?_)
  refine lv_aload_n hx hb dX10_reset_10 rfl (lv_at hl 0 rfl) ?_
  refine lv_iconst (v := 0) hx hb dX10_reset_11 (by decide) ?_
  refine po_10_18 (ci := 0) (cs' := [cX10 cy adY (si (si (si Y 0 0) 1 0) 2 0)]) hx hb hts hown hK hE hP hD hS rfl rfl (by decide) dX10_reset_12 (fun H locs hP hD hS => ?_)
  refine lv_aload_n hx hb dX10_reset_15 rfl (lv_at hl 0 rfl) ?_
  refine lv_iconst (v := (-1)) hx hb dX10_reset_16 (by decide) ?_
  refine po_10_21 (ci := 0) (cs' := [cX10 cy adY (si (si (si (si Y 0 0) 1 0) 2 0) 3 ((-1)))]) hx hb hts hown hK hE hP hD hS rfl rfl dX10_reset_17 (fun H locs hP hD hS => ?_)
  refine lv_aload_n hx hb dX10_reset_20 rfl (lv_at hl 0 rfl) ?_
  refine lv_iconst (v := (-1)) hx hb dX10_reset_21 (by decide) ?_
  refine po_10_25 (ci := 0) (cs' := [cX10 cy adY (si (si (si (si (si Y 0 0) 1 0) 2 0) 3 ((-1))) 4 ((-1)))]) hx hb hts hown hK hE hP hD hS rfl rfl dX10_reset_22 (fun H locs hP hD hS => ?_)
  refine lv_aload_n hx hb dX10_reset_25 rfl (lv_at hl 0 rfl) ?_
  refine lv_iconst (v := 0) hx hb dX10_reset_26 (by decide) ?_
  refine po_10_28 (ci := 0) (cs' := [cX10 cy adY (si (si (si (si (si (si Y 0 0) 1 0) 2 0) 3 ((-1))) 4 ((-1))) 5 0)]) hx hb hts hown hK hE hP hD hS rfl rfl dX10_reset_27 (fun H locs hP hD hS => ?_)
  refine lv_aload_n hx hb dX10_reset_30 rfl (lv_at hl 0 rfl) ?_
  refine lv_iconst (v := 0) hx hb dX10_reset_31 (by decide) ?_
  refine po_10_31 (ci := 0) (cs' := [cX10 cy adY (si (si (si (si (si (si (si Y 0 0) 1 0) 2 0) 3 ((-1))) 4 ((-1))) 5 0) 6 0)]) hx hb hts hown hK hE hP hD hS rfl rfl dX10_reset_32 (fun H locs hP hD hS => ?_)
  refine lv_iconst (v := 0) hx hb dX10_reset_35 (by decide) ?_
  refine lv_istore_n (lv' := [(1, .int 0), (0, .ref (adY 0))]) hx hb dX10_reset_36 rfl hl (by decide) rfl (fun ls hl => ?_)
  exact L37  N 0 (si (si (si (si (si (si (si Y 0 0) 1 0) 2 0) 3 ((-1))) 4 ((-1))) 5 0) 6 0) _ _ _ h hP hD hS (lv_sub hl [1, 0] rfl)
theorem hds_X10_change : yX10_change.cls ≠ "java/lang/invoke/MethodHandle" ∧ yX10_change.cls ≠ "java/lang/invoke/VarHandle" ∧ (parseMethodDescriptor yX10_change.desc).map (fun d => d.parameters.length) = some 2 := ⟨by decide +kernel, by decide +kernel, by decide +kernel⟩
theorem hd_X10_change : yX10_change.cls = RX10 ∧ yX10_change.cls ≠ "java/lang/invoke/MethodHandle" ∧ yX10_change.cls ≠ "java/lang/invoke/VarHandle" ∧ (parseMethodDescriptor yX10_change.desc).map (fun d => d.parameters.length) = some 2 := ⟨rfl, hds_X10_change⟩
def f_X10_change (Y : VV) (a1 : Int32) (a2 : Int32) : Option (VV) :=
  if a1 = 1 then some (si Y 1 1) else if a1 = 2 then some (si Y 3 a2) else if a1 = 3 then some (si Y 5 4) else if a1 = 4 then some (si Y 2 1) else if a1 = 5 then some (si Y 6 9) else some Y
set_option maxHeartbeats 4000000 in
set_option maxRecDepth 100000 in
theorem k_X10_change (l : Launch) (G : va_G) (cy : Nat → ClassId) (ev : Nat → Nat) (adY : Nat → Nat) (Y : VV) (a1 : Int32) (a2 : Int32) (res : VV) (h : f_X10_change Y a1 a2 = some res) : MetV l yX10_change cX10_change 3 none 0 0 G cy ev [.ref (adY 0), .int a1, .int a2] (wj [cX10 cy adY Y]) (wj [cX10 cy adY res]) := by
  refine MetQ.start (by decide +kernel) (Nat.le_of_ble_eq_true rfl) (fun p e s m args below meth c A ls hx hb hr hml hown hts hlocks hK hP hD hA hl hE => ?_)
  have hS : va_S A s.heap s.heap [] := va_S.rf
  have hown : s.vm.findClass RX10 = some m.cls := hown
  have hl : lv_has ls 3 [(0, .ref (adY 0)), (1, .int a1), (2, .int a2)] := hl
  delta f_X10_change at h
  refine lv_iload_n hx hb dX10_change_0 rfl (lv_at hl 1 rfl) ?_
  refine lv_topi (fun w1 ew1 => ?_)
  by_cases nw1_0 : a1 = 1
  · replace h := (br h).1 nw1_0
    rw [ew1, nw1_0]
    refine lv_tableIn (off := 35) (tgt := 36) hx hb dX10_change_1 (by decide) (by decide) rfl (by decide) ?_
    refine lv_aload_n hx hb dX10_change_36 rfl (lv_at hl 0 rfl) ?_
    refine lv_iconst (v := 1) hx hb dX10_change_37 (by decide) ?_
    refine po_10_15 (ci := 0) (cs' := [cX10 cy adY (si Y 1 1)]) hx hb hts hown hK hE hP hD hS rfl rfl (by decide) dX10_change_38 (fun H locs hP hD hS => ?_)
    refine lv_goto (tgt := 77) hx hb dX10_change_41 (by decide) ?_
    exact retV (fw := fun q => wj [cX10 cy adY q]) h hx hb hr hlocks hK hP hD hS dX10_change_77
  · replace h := (br h).2 nw1_0
    by_cases nw1_1 : a1 = 2
    · replace h := (br h).1 nw1_1
      rw [ew1, nw1_1]
      refine lv_tableIn (off := 43) (tgt := 44) hx hb dX10_change_1 (by decide) (by decide) rfl (by decide) ?_
      refine lv_aload_n hx hb dX10_change_44 rfl (lv_at hl 0 rfl) ?_
      refine lv_iload_n hx hb dX10_change_45 rfl (lv_at hl 2 rfl) ?_
      refine po_10_21 (ci := 0) (cs' := [cX10 cy adY (si Y 3 a2)]) hx hb hts hown hK hE hP hD hS rfl rfl dX10_change_46 (fun H locs hP hD hS => ?_)
      refine lv_goto (tgt := 77) hx hb dX10_change_49 (by decide) ?_
      exact retV (fw := fun q => wj [cX10 cy adY q]) h hx hb hr hlocks hK hP hD hS dX10_change_77
    · replace h := (br h).2 nw1_1
      by_cases nw1_2 : a1 = 3
      · replace h := (br h).1 nw1_2
        rw [ew1, nw1_2]
        refine lv_tableIn (off := 51) (tgt := 52) hx hb dX10_change_1 (by decide) (by decide) rfl (by decide) ?_
        refine lv_aload_n hx hb dX10_change_52 rfl (lv_at hl 0 rfl) ?_
        refine lv_iconst (v := 4) hx hb dX10_change_53 (by decide) ?_
        refine po_10_28 (ci := 0) (cs' := [cX10 cy adY (si Y 5 4)]) hx hb hts hown hK hE hP hD hS rfl rfl dX10_change_54 (fun H locs hP hD hS => ?_)
        refine lv_goto (tgt := 77) hx hb dX10_change_57 (by decide) ?_
        exact retV (fw := fun q => wj [cX10 cy adY q]) h hx hb hr hlocks hK hP hD hS dX10_change_77
      · replace h := (br h).2 nw1_2
        by_cases nw1_3 : a1 = 4
        · replace h := (br h).1 nw1_3
          rw [ew1, nw1_3]
          refine lv_tableIn (off := 59) (tgt := 60) hx hb dX10_change_1 (by decide) (by decide) rfl (by decide) ?_
          refine lv_aload_n hx hb dX10_change_60 rfl (lv_at hl 0 rfl) ?_
          refine lv_iconst (v := 1) hx hb dX10_change_61 (by decide) ?_
          refine po_10_18 (ci := 0) (cs' := [cX10 cy adY (si Y 2 1)]) hx hb hts hown hK hE hP hD hS rfl rfl (by decide) dX10_change_62 (fun H locs hP hD hS => ?_)
          refine lv_goto (tgt := 77) hx hb dX10_change_65 (by decide) ?_
          exact retV (fw := fun q => wj [cX10 cy adY q]) h hx hb hr hlocks hK hP hD hS dX10_change_77
        · replace h := (br h).2 nw1_3
          by_cases nw1_4 : a1 = 5
          · replace h := (br h).1 nw1_4
            rw [ew1, nw1_4]
            refine lv_tableIn (off := 67) (tgt := 68) hx hb dX10_change_1 (by decide) (by decide) rfl (by decide) ?_
            refine lv_aload_n hx hb dX10_change_68 rfl (lv_at hl 0 rfl) ?_
            refine lv_bipush (v := 9) hx hb dX10_change_69 (by decide) ?_
            refine po_10_31 (ci := 0) (cs' := [cX10 cy adY (si Y 6 9)]) hx hb hts hown hK hE hP hD hS rfl rfl dX10_change_71 (fun H locs hP hD hS => ?_)
            refine lv_goto (tgt := 77) hx hb dX10_change_74 (by decide) ?_
            exact retV (fw := fun q => wj [cX10 cy adY q]) h hx hb hr hlocks hK hP hD hS dX10_change_77
          · replace h := (br h).2 nw1_4
            rw [ew1]
            refine lv_tableOut (tgt := 77) hx hb dX10_change_1 (by have := ne_toInt (k := 1) 1 (by decide) nw1_0; have := ne_toInt (k := 2) 2 (by decide) nw1_1; have := ne_toInt (k := 3) 3 (by decide) nw1_2; have := ne_toInt (k := 4) 4 (by decide) nw1_3; have := ne_toInt (k := 5) 5 (by decide) nw1_4;  omega) (by decide) ?_
            exact retV (fw := fun q => wj [cX10 cy adY q]) h hx hb hr hlocks hK hP hD hS dX10_change_77
